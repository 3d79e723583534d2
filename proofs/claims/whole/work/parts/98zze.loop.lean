/-! THE LAW'S LOOP: by gen/loop.py. -/
def Go9 (sc : Nat × (Nat → Int)) (d : Nat) (h : am_H) (i : Int) (r : am_R) : Prop := ∃ h2 J2 u7 u8, LInv h2 J2 ∧ Bd h h2 ∧ r = Ru sc (d + 60) mL_law_ 2052 [Vx 1, Vr (some 0), Vr (some 283), Vr (some 303), Vi i, u7, u8] [] (hI h2 J2)
theorem go9_if {T : am_R → Prop} {P : Prop} [Decidable P] {x y : am_R} (h1 : P → T x) (h2 : ¬ P → T y) : T (if P then x else y) := by
  by_cases h : P
  · rw [if_pos h]
    exact h1 h
  · rw [if_neg h]
    exact h2 h
section
variable {sc : Nat × (Nat → Int)} {d : Nat} {h : am_H} {I : am_I} {i : Int}
theorem law_it (l : LInv h I) (hs : ∀ j, i32 (sc.2 j)) (i0 : 0 ≤ i) (i1 : i + 6 ≤ (sc.1 : Int)) (hL : sc.1 ≤ 3072) {u5 u6 : am_V} : Go9 sc d h i (Ru sc (d + 60) mL_law_ 14 [Vx 1, Vr (some 0), Vr (some 283), Vr (some 303), Vi i, u5, u6] [] (hI h I)) := by
  have c : ∀ k : Int, 0 ≤ k → k ≤ 5 → 0 ≤ w32 (i + k) ∧ w32 (i + k) < (sc.1 : Int) := fun k k0 k5 => by
    rw [w32_id (by omega) (by omega)]
    omega
  have c1 := c 1 (by decide) (by decide)
  have c2 := c 2 (by decide) (by decide)
  have c3 := c 3 (by decide) (by decide)
  have c4 := c 4 (by decide) (by decide)
  have c5 := c 5 (by decide) (by decide)
  have e6 : w32 ((sc.1 : Int) - 6) = (sc.1 : Int) - 6 := w32_id (by omega) (by omega)
  rw [q_L_law__14, e6, if_neg (by omega), if_pos (by omega)]
  generalize bAnd (sc.2 i.toNat) 63 = op
  refine go9_if (T := Go9 sc d h i) (fun _ => s_26 l c1 c2 c3 c4 c5) (fun _ => ?_)
  refine go9_if (T := Go9 sc d h i) (fun _ => s_83 l c1) (fun _ => ?_)
  refine go9_if (T := Go9 sc d h i) (fun _ => s_100 l) (fun _ => ?_)
  refine go9_if (T := Go9 sc d h i) (fun _ => s_125 l) (fun _ => ?_)
  refine go9_if (T := Go9 sc d h i) (fun _ => s_150 l) (fun _ => ?_)
  refine go9_if (T := Go9 sc d h i) (fun _ => s_157 l c1 c2) (fun _ => ?_)
  refine go9_if (T := Go9 sc d h i) (fun _ => s_202 l c1 c2) (fun _ => ?_)
  refine go9_if (T := Go9 sc d h i) (fun _ => s_247 l c1 c2) (fun _ => ?_)
  refine go9_if (T := Go9 sc d h i) (fun _ => s_292 l c1) (fun _ => ?_)
  refine go9_if (T := Go9 sc d h i) (fun _ => s_327 l c1) (fun _ => ?_)
  refine go9_if (T := Go9 sc d h i) (fun _ => s_362 l c1) (fun _ => ?_)
  refine go9_if (T := Go9 sc d h i) (fun _ => s_397 l c1 c2) (fun _ => ?_)
  refine go9_if (T := Go9 sc d h i) (fun _ => s_455 l c1 c2) (fun _ => ?_)
  refine go9_if (T := Go9 sc d h i) (fun _ => s_513 l c1 c2) (fun _ => ?_)
  refine go9_if (T := Go9 sc d h i) (fun _ => s_558 l c1) (fun _ => ?_)
  refine go9_if (T := Go9 sc d h i) (fun _ => s_593 l c1 c2) (fun _ => ?_)
  refine go9_if (T := Go9 sc d h i) (fun _ => s_638 l c1 c2) (fun _ => ?_)
  refine go9_if (T := Go9 sc d h i) (fun _ => s_683 l c1 c2) (fun _ => ?_)
  refine go9_if (T := Go9 sc d h i) (fun _ => s_731 l c1 c2) (fun _ => ?_)
  refine go9_if (T := Go9 sc d h i) (fun _ => s_776 l c1 c2) (fun _ => ?_)
  refine go9_if (T := Go9 sc d h i) (fun _ => s_824 l c1 c2) (fun _ => ?_)
  refine go9_if (T := Go9 sc d h i) (fun _ => s_869 l c1 c2) (fun _ => ?_)
  refine go9_if (T := Go9 sc d h i) (fun _ => s_917 l) (fun _ => ?_)
  refine go9_if (T := Go9 sc d h i) (fun _ => s_924 l) (fun _ => ?_)
  refine go9_if (T := Go9 sc d h i) (fun _ => s_931 l c1 c2 c3) (fun _ => ?_)
  refine go9_if (T := Go9 sc d h i) (fun _ => s_986 l c1 c2) (fun _ => ?_)
  refine go9_if (T := Go9 sc d h i) (fun _ => s_1031 l c1 c2 c3) (fun _ => ?_)
  refine go9_if (T := Go9 sc d h i) (fun _ => s_1086 l c1) (fun _ => ?_)
  refine go9_if (T := Go9 sc d h i) (fun _ => s_1121 l c1) (fun _ => ?_)
  refine go9_if (T := Go9 sc d h i) (fun _ => s_1156 l c1 c2) (fun _ => ?_)
  refine go9_if (T := Go9 sc d h i) (fun _ => s_1201 l c1) (fun _ => ?_)
  refine go9_if (T := Go9 sc d h i) (fun _ => s_1236 l c1) (fun _ => ?_)
  refine go9_if (T := Go9 sc d h i) (fun _ => s_1274 l) (fun _ => ?_)
  refine go9_if (T := Go9 sc d h i) (fun _ => s_1281 l) (fun _ => ?_)
  refine go9_if (T := Go9 sc d h i) (fun _ => s_1288 l c1 c2) (fun _ => ?_)
  refine go9_if (T := Go9 sc d h i) (fun _ => s_1333 l c1 c2 c3) (fun _ => ?_)
  refine go9_if (T := Go9 sc d h i) (fun _ => s_1388 l c1) (fun _ => ?_)
  refine go9_if (T := Go9 sc d h i) (fun _ => s_1423 l c1) (fun _ => ?_)
  refine go9_if (T := Go9 sc d h i) (fun _ => s_1458 l c1) (fun _ => ?_)
  refine go9_if (T := Go9 sc d h i) (fun _ => s_1502 l) (fun _ => ?_)
  refine go9_if (T := Go9 sc d h i) (fun _ => s_1527 l c1 c2) (fun _ => ?_)
  refine go9_if (T := Go9 sc d h i) (fun _ => s_1572 l c1) (fun _ => ?_)
  refine go9_if (T := Go9 sc d h i) (fun _ => s_1607 l c1 c2) (fun _ => ?_)
  refine go9_if (T := Go9 sc d h i) (fun _ => s_1652 l c1 c2) (fun _ => ?_)
  refine go9_if (T := Go9 sc d h i) (fun _ => s_1697 l) (fun _ => ?_)
  refine go9_if (T := Go9 sc d h i) (fun _ => s_1704 l c1) (fun _ => ?_)
  refine go9_if (T := Go9 sc d h i) (fun _ => s_1730 l) (fun _ => ?_)
  refine go9_if (T := Go9 sc d h i) (fun _ => s_1737 l) (fun _ => ?_)
  refine go9_if (T := Go9 sc d h i) (fun _ => s_1744 l c1 c2) (fun _ => ?_)
  refine go9_if (T := Go9 sc d h i) (fun _ => s_1789 l c1 c2) (fun _ => ?_)
  refine go9_if (T := Go9 sc d h i) (fun _ => s_1844 l c1 c2) (fun _ => ?_)
  refine go9_if (T := Go9 sc d h i) (fun _ => s_1899 l c1 c2) (fun _ => ?_)
  refine go9_if (T := Go9 sc d h i) (fun _ => s_1954 l c1 c2) (fun _ => ?_)
  refine go9_if (T := Go9 sc d h i) (fun _ => s_1999 l c1 hs) (fun _ => ?_)
  refine go9_if (T := Go9 sc d h i) (fun _ => s_2016 l) (fun _ => ?_)
  refine go9_if (T := Go9 sc d h i) (fun _ => s_2023 l) (fun _ => ?_)
  refine go9_if (T := Go9 sc d h i) (fun _ => s_2028 l) (fun _ => ?_)
  refine go9_if (T := Go9 sc d h i) (fun _ => s_2035 l c1) (fun _ => ?_)
  exact ⟨h, I, u5, u6, l, Bd.rf h, rfl⟩
theorem law_all (hs : ∀ j, i32 (sc.2 j)) (hL : sc.1 ≤ 3072) : ∀ (n : Nat) (i : Int) (h : am_H) (I : am_I) (u5 u6 : am_V), LInv h I → 0 ≤ i → (sc.1 : Int) - i < 6 * ((n : Int) + 1) → ∃ h1, Ru sc (d + 60) mL_law_ 14 [Vx 1, Vr (some 0), Vr (some 283), Vr (some 303), Vi i, u5, u6] [] (hI h I) = some (.inl (Vi 1), h1) ∧ hC h1 ≤ hC h + 8 * n ∧ hS h1 ≤ hS h + 600 * n := by
  intro n
  have ew : w32 ((sc.1 : Int) - 6) = (sc.1 : Int) - 6 := w32_id (by omega) (by omega)
  induction n with
  | zero =>
    intro i h I u5 u6 l i0 hi
    refine ⟨hI h I, ?_, (by show hC h ≤ _; omega), (by show hS h ≤ _; omega)⟩
    rw [q_L_law__14, ew, if_pos (by omega)]
  | succ n ih =>
    intro i h I u5 u6 l i0 hi
    by_cases hk : (sc.1 : Int) - 6 < i
    · refine ⟨hI h I, ?_, (by show hC h ≤ _; omega), (by show hS h ≤ _; omega)⟩
      rw [q_L_law__14, ew, if_pos hk]
    · obtain ⟨h2, J2, u7, u8, l2, b2, e2⟩ := law_it (d := d) l hs i0 (by omega) hL (u5 := u5) (u6 := u6)
      have e3 : w32 (i + 6) = i + 6 := w32_id (by omega) (by omega)
      rw [q_L_law__2052, e3] at e2
      obtain ⟨h1, a1, a2, a3⟩ := ih (i + 6) h2 J2 u7 u8 l2 (by omega) (by omega)
      refine ⟨h1, e2.trans a1, ?_, ?_⟩
      · have := b2.1
        omega
      · have := b2.2
        omega
end
