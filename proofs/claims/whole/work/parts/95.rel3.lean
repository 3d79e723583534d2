/-! THE TWO SIDE BY SIDE -/
def ring (I : am_I) (k : Nat) : Nat := 139 + 12 * (((I 0 8).toNat + k) % 12)
def Img (h : am_H) (I : am_I) : Prop := I 0 6 = I 283 6 ∧ (I 283 6 = 0 ∨ (I 283 6 = 1 ∧ St h I 35 (I 285)))
def rowA (I : am_I) (k : Nat) : am_Wd := fun j => I 288 (631 * k + j)
def Rng (h : am_H) (I : am_I) : Prop := I 0 9 = I 283 7 ∧ (0 ≤ I 283 7 ∧ I 283 7 ≤ 12) ∧ (0 ≤ I 0 8 ∧ I 0 8 < 12) ∧ ∀ k : Nat, (k : Int) < I 283 7 → CRep I (ring I k) (rowA I k) ∧ WW (rowA I k) ∧ rowA I k 2 = I 284 2 ∧ rP h (ring I k) 14 = rP h 11 14
def Tap (I : am_I) : Prop := I 1 1 = I 283 9 ∧ (0 ≤ I 283 9 ∧ I 283 9 ≤ 400) ∧ (∀ k, k < 400 → (-128 ≤ I 289 k ∧ I 289 k ≤ 127) ∧ I 2 k = I 289 k % 256) ∧ I 1 2 = I 283 14
def Rel (h : am_H) (I : am_I) : Prop := Sh h ∧ St h I 11 (I 284) ∧ Img h I ∧ Rng h I ∧ Tap I ∧ I 283 18 = -1 ∧ I 283 19 = -1 ∧ I 9 0 = 0 ∧ ∃ n, hZ h = 304 + 6 * n
/-- what a call that asks only leaves -/
def QQ (h : am_H) (I : am_I) (h' : am_H) (J : am_I) : Prop := Same I J ∧ hT h' = hT h ∧ hZ h' = hZ h ∧ ∀ a j, a ≠ 23 ∨ j ≠ 14 → rP h' a j = rP h a j
theorem isC_now : isC 11 := Or.inl rfl
theorem isK_now : isK 11 := Or.inl rfl
theorem shP_23 : ∀ z ∈ shP, z.1 ≠ 23 ∨ z.2.1 ≠ 14 := by decide +kernel
theorem QQ.rf (h : am_H) (I : am_I) : QQ h I h I := ⟨Same.rf I, rfl, rfl, fun _ _ _ => rfl⟩
theorem QQ.tr {h h1 h2 : am_H} {I I1 I2 : am_I} (a : QQ h I h1 I1) (b : QQ h1 I1 h2 I2) : QQ h I h2 I2 := ⟨a.1.tr b.1, b.2.1.trans a.2.1, b.2.2.1.trans a.2.2.1, fun p j hp => (b.2.2.2 p j hp).trans (a.2.2.2 p j hp)⟩
theorem QQ.of {h : am_H} {I J : am_I} (e : Same I J) : QQ h I h J := ⟨e, rfl, rfl, fun _ _ _ => rfl⟩
theorem QQ.ex {h : am_H} {I J : am_I} (e : Same I J) : QQ h I (am_ex h) J := ⟨e, rfl, rfl, fun _ _ _ => rfl⟩
theorem LR.same {h h' : am_H} {I J : am_I} {a : Nat} {w : am_Wd} (M : LR h I a w) (eT : hT h' = hT h) (eZ : hZ h ≤ hZ h') (eP : rP h' a 14 = rP h a 14) (eQ : ∀ p j, 304 ≤ p → rP h' p j = rP h p j) (e : ∀ n k, k < 5 → J (304 + 6 * n + k) = I (304 + 6 * n + k)) : LR h' J a w := by
  unfold LR at M ⊢
  rw [eP]
  rcases M with M | ⟨M0, n, ln, cc, M1, M2, M3, M4, M5⟩
  · exact Or.inl M
  · refine Or.inr ⟨M0, n, ln, cc, M1, by omega, ?_, ?_, M5⟩
    · unfold LO at M3 ⊢
      rw [eT, eQ _ _ (by omega), eQ _ _ (by omega), eQ _ _ (by omega), eQ _ _ (by omega), eQ _ _ (by omega)]
      exact M3
    · unfold LC at M4 ⊢
      have e0 := e n 0 (by omega)
      rw [Nat.add_zero] at e0
      rw [e0, e n 1 (by omega), e n 2 (by omega), e n 3 (by omega), e n 4 (by omega)]
      exact M4
theorem Same.lawp {I J : am_I} (h : Same I J) (n k : Nat) (hk : k < 5) : J (304 + 6 * n + k) = I (304 + 6 * n + k) := by
  funext j
  refine h _ _ ?_
  unfold scr
  omega
theorem Same.pl {I J : am_I} (h : Same I J) {p : Nat} (hp : p = 0 ∨ p = 2 ∨ p = 284 ∨ p = 285 ∨ p = 288 ∨ p = 289) : J p = I p := by
  funext j
  refine h _ _ ?_
  unfold scr
  omega
theorem Same.m {I J : am_I} (h : Same I J) {j : Nat} (hj : j = 6 ∨ j = 7 ∨ j = 9 ∨ j = 14 ∨ j = 18 ∨ j = 19) : J 283 j = I 283 j := by
  refine h _ _ ?_
  unfold scr
  omega
theorem Same.t {I J : am_I} (h : Same I J) {j : Nat} (hj : j < 5) : J 1 j = I 1 j := by
  refine h _ _ ?_
  unfold scr
  omega
theorem St.same {h h' : am_H} {I J : am_I} {a : Nat} {w : am_Wd} (S : St h I a w) (q : QQ h I h' J) (ha : isK a) (ha2 : a ≠ 23) : St h' J a w :=
  ⟨S.1.same q.1 ha, S.2.1, S.2.2.same q.2.1 (by rw [q.2.2.1]; exact Nat.le_refl _) (q.2.2.2 _ _ (Or.inl ha2)) (fun p j hp => q.2.2.2 _ _ (by omega)) q.1.lawp⟩
theorem isK_35 : isK 35 := Or.inr (Or.inl rfl)
theorem isK_ring {I : am_I} {k : Nat} : isK (ring I k) := Or.inr (Or.inr ⟨_, Nat.mod_lt _ (by omega), rfl⟩)
theorem ring_n {I : am_I} {k : Nat} : 139 ≤ ring I k ∧ ring I k ≤ 271 ∧ isC (ring I k) := by
  unfold ring isC
  have : ((I 0 8).toNat + k) % 12 < 12 := Nat.mod_lt _ (by omega)
  omega
theorem Rel.q {h h' : am_H} {I J : am_I} (r : Rel h I) (q : QQ h I h' J) : Rel h' J := by
  obtain ⟨s, S, i, g, t, x1, x2, x9, n, hn⟩ := r
  have e := q.1
  refine ⟨⟨?_, ?_, ?_⟩, ?_, ⟨?_, ?_⟩, ⟨?_, ?_, ?_, ?_⟩, ⟨?_, ?_, ?_, ?_⟩, ?_, ?_, ?_, n, ?_⟩
  · intro k hk
    rw [q.2.1]
    exact s.1 k hk
  · intro z hz
    have hz2 := s.2.1 z hz
    rw [q.2.2.2 _ _ (shP_23 z hz)]
    exact hz2
  · rw [q.2.2.1]
    exact s.2.2
  · rw [e.w]
    exact S.same q isK_now (by decide)
  · rw [e.pl (Or.inl rfl), e.m (Or.inl rfl)]
    exact i.1
  · rw [e.m (Or.inl rfl), e.pl (p := 285) (by omega)]
    rcases i.2 with i2 | ⟨i2, i3⟩
    · exact Or.inl i2
    · exact Or.inr ⟨i2, i3.same q isK_35 (by decide)⟩
  · rw [e.pl (Or.inl rfl), e.m (j := 7) (by omega)]
    exact g.1
  · rw [e.m (j := 7) (by omega)]
    exact g.2.1
  · rw [e.pl (Or.inl rfl)]
    exact g.2.2.1
  · intro k hk
    rw [e.m (j := 7) (by omega)] at hk
    obtain ⟨g1, g2, g3, g4⟩ := g.2.2.2 k hk
    have er : ring J k = ring I k := by unfold ring; rw [e.pl (Or.inl rfl)]
    have ew : rowA J k = rowA I k := by unfold rowA; rw [e.pl (p := 288) (by omega)]
    have hr := ring_n (I := I) (k := k)
    rw [er, ew, e.w, q.2.2.2 _ _ (by omega), q.2.2.2 _ _ (Or.inl (by decide))]
    exact ⟨g1.same e isK_ring, g2, g3, g4⟩
  · rw [e.t (by omega), e.m (j := 9) (by omega)]
    exact t.1
  · rw [e.m (j := 9) (by omega)]
    exact t.2.1
  · rw [e.pl (p := 2) (by omega), e.pl (p := 289) (by omega)]
    exact t.2.2.1
  · rw [e.t (by omega), e.m (j := 14) (by omega)]
    exact t.2.2.2
  · rw [e.m (j := 18) (by omega)]
    exact x1
  · rw [e.m (j := 19) (by omega)]
    exact x2
  · rw [e 9 0 (by unfold scr; omega)]
    exact x9
  · rw [q.2.2.1]
    exact hn
/-- one call, put to both -/
def out (x : Nat) (v : Int) (h : am_H) (I : am_I) : am_R := if x = 0 then some (.inl (Vi v), hI h I) else some (.inr x, hI h I)
def Bd (h h' : am_H) : Prop := hC h' ≤ hC h + 8 ∧ hS h' ≤ hS h + 600
theorem Bd.rf (h : am_H) : Bd h h := ⟨Nat.le_add_right _ _, Nat.le_add_right _ _⟩
theorem Bd.ex (h : am_H) : Bd h (am_ex h) := ⟨(by show hC h + 1 ≤ _; omega), (by show hS h + 6 ≤ _; omega)⟩
def Pub (h : am_H) (I : am_I) (C M : am_H → am_R) (cd : Nat → Int) : Prop := ∃ x v v' h1 J1, C (hI h I) = out x v h1 J1 ∧ Sh h1 ∧ (x = 0 → v = v') ∧ ∀ o, ∃ h2 J2, M (hI h1 (am_u2 J1 303 0 o)) = some (.inl (Vi v'), hI h2 J2) ∧ Rel h2 J2 ∧ J2 283 0 = cd x ∧ Bd h h2
def CO (r : am_R) (h : am_H) (I : am_I) (x : Nat) (v : Int) : Prop := ∃ h1 J1, r = out x v h1 J1 ∧ QQ h I h1 J1 ∧ Bd h h1
def MO (r : am_R) (h : am_H) (I : am_I) (x v : Int) : Prop := ∃ J, r = some (.inl (Vi v), hI h J) ∧ Same I J ∧ J 283 0 = x
theorem CO.ok {r : am_R} {h : am_H} {I J : am_I} {v : Int} (e : r = some (.inl (Vi v), hI h J)) (hs : Same I J) : CO r h I 0 v := ⟨h, J, e, QQ.of hs, Bd.rf h⟩
theorem CO.no {r : am_R} {h : am_H} {I J : am_I} {v : Int} {x : Nat} (hx : x ≠ 0) (e : r = some (.inr x, hI (am_ex h) J)) (hs : Same I J) : CO r h I x v := ⟨am_ex h, J, by unfold out; rw [if_neg hx]; exact e, QQ.ex hs, Bd.ex h⟩
theorem pubQ {h : am_H} {I : am_I} {C M : am_H → am_R} {cd : Nat → Int} {x : Nat} {v v' : Int} (r : Rel h I) (c : CO (C (hI h I)) h I x v) (m : ∀ h1 J1, Rel h1 J1 → Same I J1 → MO (M (hI h1 J1)) h1 J1 (cd x) v') (e : x = 0 → v = v') : Pub h I C M cd := by
  obtain ⟨h1, J1, c1, c2, c3⟩ := c
  refine ⟨x, v, v', h1, J1, c1, (r.q c2).1, e, fun o => ?_⟩
  have q3 : QQ h I h1 (am_u2 J1 303 0 o) := ⟨c2.1.u2 (by unfold scr; omega), c2.2⟩
  obtain ⟨J2, m1, m2, m3⟩ := m h1 _ (r.q q3) q3.1
  exact ⟨h1, J2, m1, (r.q (q3.tr (QQ.of m2))), m3, c3⟩
theorem hI_exI {h : am_H} {I : am_I} : am_ex (hI h I) = hI (am_ex h) I := rfl
theorem s283 {I : am_I} {v : Int} : Same I (am_u2 I 283 0 v) := (Same.rf I).u2 (by unfold scr; omega)
theorem Same.x283 {I J : am_I} {v : Int} (h : Same I J) : Same I (am_u2 J 283 0 v) := h.u2 (by unfold scr; omega)
theorem w283 {I : am_I} {v : Int} : am_u2 I 283 0 v 284 = I 284 := u2_o (by decide)
