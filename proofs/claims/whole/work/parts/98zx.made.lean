/-! A LAW MADE: new places -/
/-- one more place, s slots at most -/
def GN (s : Nat) (g g' : am_H) : Prop := hZ g' = hZ g + 1 ∧ hC g' = hC g + 1 ∧ hS g' ≤ hS g + s ∧ ∀ b, b ≠ hZ g → hT g' b = hT g b ∧ (∀ j, rI g' b j = rI g b j) ∧ ∀ j, rP g' b j = rP g b j
theorem GN.new {g : am_H} {t n k : Nat} : GN k g (am_new g t n k) := by
  refine ⟨rfl, rfl, Nat.le_refl _, fun b hb => ⟨?_, fun j => ?_, fun j => ?_⟩⟩
  · show am_u1 g.2.2.2.1 g.2.2.1 (t, n) b = _
    exact if_neg hb
  · show am_u1 g.2.2.2.2.1 g.2.2.1 (fun _ => 0) b j = _
    unfold am_u1
    rw [if_neg (show ¬ b = g.2.2.1 from hb)]
    rfl
  · show am_u1 g.2.2.2.2.2 g.2.2.1 (fun _ => none) b j = _
    unfold am_u1
    rw [if_neg (show ¬ b = g.2.2.1 from hb)]
    rfl
theorem T_new {g : am_H} {t n k : Nat} : hT (am_new g t n k) (hZ g) = (t, n) := if_pos rfl
theorem GN.cln {g : am_H} {a s : Nat} (h : (hT g a).2 ≤ s) : GN s g (am_cln g a) := by
  refine ⟨rfl, rfl, Nat.add_le_add_left h _, fun b hb => ⟨?_, fun j => ?_, fun j => ?_⟩⟩
  · show am_u1 g.2.2.2.1 g.2.2.1 (hT g a) b = _
    exact if_neg hb
  · show am_u1 g.2.2.2.2.1 g.2.2.1 (g.2.2.2.2.1 a) b j = _
    unfold am_u1
    rw [if_neg (show ¬ b = g.2.2.1 from hb)]
    rfl
  · show am_u1 g.2.2.2.2.2 g.2.2.1 (fun _ => none) b j = _
    unfold am_u1
    rw [if_neg (show ¬ b = g.2.2.1 from hb)]
    rfl
theorem T_cln {g : am_H} {a : Nat} : hT (am_cln g a) (hZ g) = hT g a := if_pos rfl
theorem I_cln {g : am_H} {a j : Nat} : rI (am_cln g a) (hZ g) j = rI g a j := by
  show am_u1 g.2.2.2.2.1 g.2.2.1 (g.2.2.2.2.1 a) (hZ g) j = _
  unfold am_u1
  rw [if_pos (show hZ g = g.2.2.1 from rfl)]
  rfl
section
variable {sc : Nat × (Nat → Int)} {d : Nat} {g g' : am_H} {a b t ci j n m s : Nat} {v : Int} {p : Option Nat}
theorem r_gfI {k : Int → am_R} (ht : hT g a = (0, ci)) : gfI ci j g (some a) k = k (rI g a j) := if_pos ht
theorem r_gfP {k : Option Nat → am_R} (ht : hT g a = (0, ci)) (hp : rP g a j = p) : gfP ci j g (some a) k = k p := by
  show (if hT g a = (0, ci) then k (rP g a j) else none) = _
  rw [if_pos ht, hp]
theorem r_pfI {k : am_H → am_R} (ht : hT g a = (0, ci)) : pfI 0 ci j g (some a) v k = k (wI g a j v) := if_pos ⟨ht, fun h => by cases h⟩
theorem r_pfP {k : am_H → am_R} (ht : hT g a = (0, ci)) : pfP ci j g (some a) p k = k (wP g a j p) := if_pos ht
theorem r_lenA {k : Int → am_R} (ht : hT g a = (1, n)) : lenA g (some a) k = k n := by
  show (if 1 ≤ (hT g a).1 ∧ (hT g a).1 ≤ 6 then k (hT g a).2 else none) = _
  rw [ht]
  exact if_pos ⟨Nat.le_refl 1, show 1 ≤ 6 by decide⟩
theorem r_rcv {k : am_R} (ht : hT g a = (0, ci)) : am_rcv ci g (Vr (some a)) k = k := if_pos ht
/-- a row copied, or the first of it -/
theorem c_copyOf (ht : hT g a = (1, m)) (ha : a < hZ g) (hn : n ≤ m) (hm : m ≤ 1000) : ∃ g', (GN n g g' ∧ hT g' (hZ g) = (1, n) ∧ ∀ k, k < n → rI g' (hZ g) k = rI g a k) ∧ Cl sc (d + 2) mJ7_copyOf_59c91 [Vr (some a), Vi (n : Int)] g = some (.inl (Vr (some (hZ g))), g') := by
  rw [q_J7_copyOf_59c91_0, r_lenA ht]
  by_cases e : n = m
  · subst e
    rw [if_pos rfl]
    refine ⟨am_cln g a, ⟨GN.cln (by rw [ht]; exact Nat.le_refl _), T_cln.trans ht, fun k _ => I_cln⟩, ?_⟩
    show (if (hT g a).1 = 1 then castA (am_cln g a) (some (hZ g)) (retP (am_cln g a) (some (hZ g))) else none) = _
    rw [if_pos (by rw [ht])]
    show (if (hT (am_cln g a) (hZ g)).1 = 1 then _ else none) = _
    rw [if_pos (by rw [T_cln, ht])]
    rfl
  · rw [if_neg (by omega)]
    have hm2 : min (m : Int) (n : Int) = (n : Int) := by omega
    have ne : a ≠ hZ g := by omega
    obtain ⟨n1, n2, n3, n4⟩ := GN.new (g := g) (t := 1) (n := n) (k := n)
    have ta : hT (am_new g 1 n n) a = (1, m) := (n4 a ne).1.trans ht
    refine ⟨cpI (am_new g 1 n n) a 0 (hZ g) 0 n, ⟨⟨n1, n2, n3, fun b hb => ⟨(n4 b hb).1, fun j => ?_, (n4 b hb).2.2⟩⟩, T_new (k := n), fun k hk => ?_⟩, ?_⟩
    · show am_cpf (am_new g 1 n n).2.2.2.2.1 a 0 (hZ g) 0 n b j = _
      unfold am_cpf
      rw [if_neg (fun z => hb z.1)]
      exact (n4 b hb).2.1 j
    · show am_cpf (am_new g 1 n n).2.2.2.2.1 a 0 (hZ g) 0 n (hZ g) k = _
      unfold am_cpf
      rw [if_pos ⟨rfl, Nat.zero_le _, by omega⟩]
      have := (n4 a ne).2.1 (0 + (k - 0))
      rw [show 0 + (k - 0) = k by omega] at this ⊢
      exact this
    · have l0 : 0 ≤ (n : Int) ∧ (n : Int) ≤ 100000 := by omega
      show (if 0 ≤ (n : Int) ∧ (n : Int) ≤ 100000 then _ else none) = _
      rw [if_pos l0, Int.toNat_natCast]
      dsimp only
      rw [r_lenA ta, c_min, e_clI, hm2]
      show (if (hT (am_new g 1 n n) a).1 = 1 ∧ (hT (am_new g 1 n n) (hZ g)).1 = 1 ∧ 0 ≤ (0 : Int) ∧ 0 ≤ (0 : Int) ∧ 0 ≤ (n : Int) ∧ (0 : Int) + n ≤ (hT (am_new g 1 n n) a).2 ∧ (0 : Int) + n ≤ (hT (am_new g 1 n n) (hZ g)).2 then _ else none) = _
      rw [ta, T_new, if_pos (by refine ⟨rfl, rfl, ?_, ?_, ?_, ?_, ?_⟩ <;> (try dsimp only) <;> omega)]
      rfl
/-- places up to z as they were -/
def GS (z : Nat) (g g' : am_H) : Prop := ∀ b, b < z → hT g' b = hT g b ∧ (∀ j, rI g' b j = rI g b j) ∧ ∀ j, rP g' b j = rP g b j
theorem GS.rf {z : Nat} (g : am_H) : GS z g g := fun _ _ => ⟨rfl, fun _ => rfl, fun _ => rfl⟩
theorem GS.tr {z : Nat} {g1 g2 g3 : am_H} (a : GS z g1 g2) (b : GS z g2 g3) : GS z g1 g3 := fun x hx => ⟨(b x hx).1.trans (a x hx).1, fun j => ((b x hx).2.1 j).trans ((a x hx).2.1 j), fun j => ((b x hx).2.2 j).trans ((a x hx).2.2 j)⟩
theorem GN.gs {z : Nat} (h : GN s g g') (hz : z ≤ hZ g) : GS z g g' := fun b hb => h.2.2.2 b (by omega)
/-- the law's object, made of what was read -/
theorem l_made (s : Sh g) {L ln cc : Nat} (hL : hZ g = L) (hln : ln ≤ 12) (hcc : cc ≤ 400) (e5 : rI g 6 5 = (ln : Int)) (e6 : rI g 6 6 = (cc : Int)) : ∃ G, (GS L g G ∧ hZ G = L + 6 ∧ hC G = hC g + 6 ∧ hS G ≤ hS g + 475 ∧ LO G L ln cc ∧ rI G L 0 = (ln : Int) ∧ (∀ k, k < ln → rI G (L + 1) k = rI g 7 k ∧ rI G (L + 2) k = rI g 8 k) ∧ (∀ k, k < ln + 1 → rI G (L + 3) k = rI g 9 k) ∧ ∀ k, k < cc → rI G (L + 4) k = rI g 10 k) ∧ Cl sc (d + 3) mX4_made [Vr (some 6)] g = some (.inl (Vr (some L)), G) := by
  subst hL
  have h304 := s.2.2
  have N0 := GN.new (g := g) (t := 0) (n := 3) (k := 6)
  have S0 : GS (hZ g) g (am_new g 0 3 6) := N0.gs (Nat.le_refl _)
  obtain ⟨g1, ⟨N1, T1, I1⟩, c1⟩ := c_copyOf (sc := sc) (d := d) (g := am_new g 0 3 6) (a := 7) (m := 12) (n := ln) ((S0 7 (by omega)).1.trans (s.T 7 rfl)) (by rw [N0.1]; omega) hln (by decide)
  have S1 : GS (hZ g) g g1 := S0.tr (N1.gs (by rw [N0.1]; omega))
  have z1 : hZ g1 = hZ g + 2 := by rw [N1.1, N0.1]
  obtain ⟨g2, ⟨N2, T2, I2⟩, c2⟩ := c_copyOf (sc := sc) (d := d) (g := g1) (a := 8) (m := 12) (n := ln) ((S1 8 (by omega)).1.trans (s.T 8 rfl)) (by omega) hln (by decide)
  have S2 : GS (hZ g) g g2 := S1.tr (N2.gs (by omega))
  have z2 : hZ g2 = hZ g + 3 := by rw [N2.1, z1]
  obtain ⟨g3, ⟨N3, T3, I3⟩, c3⟩ := c_copyOf (sc := sc) (d := d) (g := g2) (a := 9) (m := 13) (n := ln + 1) ((S2 9 (by omega)).1.trans (s.T 9 rfl)) (by omega) (by omega) (by decide)
  have S3 : GS (hZ g) g g3 := S2.tr (N3.gs (by omega))
  have z3 : hZ g3 = hZ g + 4 := by rw [N3.1, z2]
  obtain ⟨g4, ⟨N4, T4, I4⟩, c4⟩ := c_copyOf (sc := sc) (d := d) (g := g3) (a := 10) (m := 400) (n := cc) ((S3 10 (by omega)).1.trans (s.T 10 rfl)) (by omega) hcc (by decide)
  have S4 : GS (hZ g) g g4 := S3.tr (N4.gs (by omega))
  have z4 : hZ g4 = hZ g + 5 := by rw [N4.1, z3]
  have N5 := GN.new (g := g4) (t := 1) (n := 32) (k := 32)
  have S5 : GS (hZ g) g (am_new g4 1 32 32) := S4.tr (N5.gs (by omega))
  have z5 : hZ (am_new g4 1 32 32) = hZ g + 6 := by rw [N5.1, z4]
  have T5 : hT (am_new g4 1 32 32) (hZ g4) = (1, 32) := T_new
  rw [N0.1] at T1 I1 c1
  rw [z1] at T2 I2 c2
  rw [z2] at T3 I3 c3
  rw [z3] at T4 I4 c4
  rw [z4] at T5
  have tL : hT (am_new g4 1 32 32) (hZ g) = (0, 3) := by
    rw [(N5.2.2.2 _ (by omega)).1, (N4.2.2.2 _ (by omega)).1, (N3.2.2.2 _ (by omega)).1, (N2.2.2.2 _ (by omega)).1, (N1.2.2.2 _ (by rw [N0.1]; omega)).1]
    exact T_new
  have tL4 : hT g4 (hZ g) = (0, 3) := by
    rw [← (N5.2.2.2 _ (by omega)).1]
    exact tL
  have w : ∀ b, b ≠ hZ g + 5 → b ≠ hZ g → True := fun _ _ _ => trivial
  have e6' : ∀ {q : am_H}, GS (hZ g) g q → hT q 6 = (0, 4) ∧ rI q 6 5 = (ln : Int) ∧ rI q 6 6 = (cc : Int) ∧ rP q 6 1 = some 7 ∧ rP q 6 2 = some 8 ∧ rP q 6 3 = some 9 ∧ rP q 6 4 = some 10 := fun {q} S => by
    obtain ⟨a1, a2, a3⟩ := S 6 (by omega)
    refine ⟨a1.trans (s.T 6 rfl), (a2 5).trans e5, (a2 6).trans e6, (a3 1).trans (s.P 16 rfl), (a3 2).trans (s.P 17 rfl), (a3 3).trans (s.P 18 rfl), (a3 4).trans (s.P 19 rfl)⟩
  obtain ⟨x1, x2, x3, x4, x5, x6, x7⟩ := e6' S0
  obtain ⟨y1, y2, y3, y4, y5, y6, y7⟩ := e6' S1
  obtain ⟨u1, u2, u3, u4, u5, u6, u7⟩ := e6' S2
  obtain ⟨v1, v2, v3, v4, v5, v6, v7⟩ := e6' S3
  -- what the last heap is
  have eG : ∃ G, G = wP (wP (wP (wP (wI (wP (am_new g4 1 32 32) (hZ g) 5 (some (hZ g + 5))) (hZ g) 0 (ln : Int)) (hZ g) 1 (some (hZ g + 1))) (hZ g) 2 (some (hZ g + 2))) (hZ g) 3 (some (hZ g + 3))) (hZ g) 4 (some (hZ g + 4)) := ⟨_, rfl⟩
  obtain ⟨G, eG⟩ := eG
  have GT : ∀ b, hT G b = hT (am_new g4 1 32 32) b := fun b => by rw [eG]; rfl
  have GZ : hZ G = hZ (am_new g4 1 32 32) := by rw [eG]; rfl
  have GC : hC G = hC (am_new g4 1 32 32) := by rw [eG]; rfl
  have GSl : hS G = hS (am_new g4 1 32 32) := by rw [eG]; rfl
  have GI : ∀ b j, b ≠ hZ g → rI G b j = rI (am_new g4 1 32 32) b j := fun b j hb => by
    rw [eG]
    show am_u2 (am_new g4 1 32 32).2.2.2.2.1 (hZ g) 0 (ln : Int) b j = _
    unfold am_u2
    rw [if_neg (fun z => hb z.1)]
    rfl
  have GP : ∀ b j, b ≠ hZ g → rP G b j = rP (am_new g4 1 32 32) b j := fun b j hb => by
    rw [eG]
    show am_u2 (am_u2 (am_u2 (am_u2 (am_u2 (am_new g4 1 32 32).2.2.2.2.2 (hZ g) 5 (some (hZ g + 5))) (hZ g) 1 (some (hZ g + 1))) (hZ g) 2 (some (hZ g + 2))) (hZ g) 3 (some (hZ g + 3))) (hZ g) 4 (some (hZ g + 4)) b j = _
    unfold am_u2
    rw [if_neg (fun z => hb z.1), if_neg (fun z => hb z.1), if_neg (fun z => hb z.1), if_neg (fun z => hb z.1), if_neg (fun z => hb z.1)]
    rfl
  have GL : rI G (hZ g) 0 = (ln : Int) := by
    rw [eG]
    show am_u2 (am_new g4 1 32 32).2.2.2.2.1 (hZ g) 0 (ln : Int) (hZ g) 0 = _
    exact if_pos ⟨rfl, rfl⟩
  have P1 : rP G (hZ g) 1 = some (hZ g + 1) ∧ rP G (hZ g) 2 = some (hZ g + 2) ∧ rP G (hZ g) 3 = some (hZ g + 3) ∧ rP G (hZ g) 4 = some (hZ g + 4) ∧ rP G (hZ g) 5 = some (hZ g + 5) := by
    rw [eG]
    refine ⟨?_, ?_, ?_, ?_, ?_⟩ <;> simp [rP, wP, wI, am_u2]
  have step : ∀ {s : Nat} {q q' : am_H}, GN s q q' → ∀ b, b ≠ hZ q → hT q' b = hT q b ∧ ∀ j, rI q' b j = rI q b j := fun n b hb => ⟨(n.2.2.2 b hb).1, (n.2.2.2 b hb).2.1⟩
  refine ⟨G, ⟨S5.tr (fun b hb => ⟨GT b, fun j => GI b j (by omega), fun j => GP b j (by omega)⟩), GZ.trans z5, ?_, ?_, ⟨?_, ?_, ?_, ?_, ?_, ?_, P1⟩, GL, fun k hk => ⟨?_, ?_⟩, fun k hk => ?_, fun k hk => ?_⟩, ?_⟩
  · rw [GC, N5.2.1, N4.2.1, N3.2.1, N2.2.1, N1.2.1, N0.2.1]
  · have := N5.2.2.1
    have := N4.2.2.1
    have := N3.2.2.1
    have := N2.2.2.1
    have := N1.2.2.1
    have := N0.2.2.1
    rw [GSl]
    omega
  · exact (GT _).trans tL
  · rw [GT, (step N5 _ (by omega)).1, (step N4 _ (by omega)).1, (step N3 _ (by omega)).1, (step N2 _ (by omega)).1]
    exact T1
  · rw [GT, (step N5 _ (by omega)).1, (step N4 _ (by omega)).1, (step N3 _ (by omega)).1]
    exact T2
  · rw [GT, (step N5 _ (by omega)).1, (step N4 _ (by omega)).1]
    exact T3
  · rw [GT, (step N5 _ (by omega)).1]
    exact T4
  · rw [GT]
    exact T5
  · rw [GI _ _ (by omega), (step N5 _ (by omega)).2, (step N4 _ (by omega)).2, (step N3 _ (by omega)).2, (step N2 _ (by omega)).2, I1 k hk]
    exact (S0 7 (by omega)).2.1 k
  · rw [GI _ _ (by omega), (step N5 _ (by omega)).2, (step N4 _ (by omega)).2, (step N3 _ (by omega)).2, I2 k hk]
    exact (S1 8 (by omega)).2.1 k
  · rw [GI _ _ (by omega), (step N5 _ (by omega)).2, (step N4 _ (by omega)).2, I3 k hk]
    exact (S2 9 (by omega)).2.1 k
  · rw [GI _ _ (by omega), (step N5 _ (by omega)).2, I4 k hk]
    exact (S3 10 (by omega)).2.1 k
  · have wl : w32 ((ln : Int) + 1) = ((ln + 1 : Nat) : Int) := ar_t1 (by omega)
    have ci : Cl sc (d + 2) mX3_init [Vr (some (hZ g)), Vi (ln : Int), Vr (some (hZ g + 1)), Vr (some (hZ g + 2)), Vr (some (hZ g + 3)), Vr (some (hZ g + 4))] g4 = some (.inl (Vx 0), G) := by
      rw [q_X3_init_0]
      show (if 0 ≤ (32 : Int) ∧ (32 : Int) ≤ 100000 then pfP 3 5 (am_new g4 1 32 32) (some (hZ g)) (some (hZ g4)) _ else none) = _
      rw [if_pos (by decide), z4, r_pfP tL]
      rw [r_pfI (g := wP (am_new g4 1 32 32) (hZ g) 5 (some (hZ g + 5))) tL]
      rw [r_pfP (g := wI (wP (am_new g4 1 32 32) (hZ g) 5 (some (hZ g + 5))) (hZ g) 0 (ln : Int)) tL]
      rw [r_pfP (g := wP (wI (wP (am_new g4 1 32 32) (hZ g) 5 (some (hZ g + 5))) (hZ g) 0 (ln : Int)) (hZ g) 1 (some (hZ g + 1))) tL]
      rw [r_pfP (g := wP (wP (wI (wP (am_new g4 1 32 32) (hZ g) 5 (some (hZ g + 5))) (hZ g) 0 (ln : Int)) (hZ g) 1 (some (hZ g + 1))) (hZ g) 2 (some (hZ g + 2))) tL]
      rw [r_pfP (g := wP (wP (wP (wI (wP (am_new g4 1 32 32) (hZ g) 5 (some (hZ g + 5))) (hZ g) 0 (ln : Int)) (hZ g) 1 (some (hZ g + 1))) (hZ g) 2 (some (hZ g + 2))) (hZ g) 3 (some (hZ g + 3))) tL]
      rw [eG]
    rw [q_X4_made_0, r_gfI x1, x2, r_gfP x1 x4, r_gfI x1, x2, c1, e_clP, r_gfP y1 y5, r_gfI y1, y2, c2, e_clP, r_gfP u1 u6, r_gfI u1, u2, wl, c3, e_clP, r_gfP v1 v7, r_gfI v1, v3, c4, e_clP, r_rcv tL4, ci, e_clV]
    rfl
end
