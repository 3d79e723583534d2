/-! WHAT CAN BE COME TO IS WHAT IS CONNECTED -/
theorem nn_mono {p q : Nat → Bool} {N : Nat} (h : ∀ u, u < N → p u = true → q u = true) : nn p N ≤ nn q N := sm_mono (fun i hi => by
  by_cases g : p i = true
  · rw [if_pos g, if_pos (h i hi g)]
    exact Int.le_refl _
  · rw [if_neg g]
    split <;> omega)
theorem nn_lt {p q : Nat → Bool} {N : Nat} (h : ∀ u, u < N → p u = true → q u = true) {x : Nat} (hx : x < N) (h1 : p x = false) (h2 : q x = true) : nn p N < nn q N := sm_lt (fun i hi => by
  by_cases g : p i = true
  · rw [if_pos g, if_pos (h i hi g)]
    exact Int.le_refl _
  · rw [if_neg g]
    split <;> omega) ⟨x, hx, by rw [h1, h2]; decide⟩
section
variable {w : am_Wd} {su pu t : Int} {c : Nat} {F : Nat → Int}
theorem adM0_open (V : WW w) {b : Nat} (hb : b < 60) (h : opS w su pu b t = true) : 0 ≤ adM w su pu 0 t b ∧ adM w su pu 0 t b ≤ 100 := by
  have ht := tlW_b V hb
  unfold adM
  rw [if_pos rfl, if_pos h]
  omega
theorem adM0_shut {b : Nat} (h : opS w su pu b t = false) : adM w su pu 0 t b = 1000000 := by
  unfold adM
  rw [if_pos rfl, if_neg (by rw [h]; decide)]
theorem adM0_pos (V : WW w) {b : Nat} (hb : b < 60) : 0 ≤ adM w su pu 0 t b := (adM_b V hb).1
theorem far_conn (V : WW w) (L : Lst pl (adM w su pu 0 t) (ini c) F) {u : Nat} (hu : u < 36) (h : F u < 1000000) : conn lc mc (fun b => opS w su pu b t) 60 c u := by
  classical
  by_cases g : conn lc mc (fun b => opS w su pu b t) 60 c u
  · exact g
  · exfalso
    have hp := L.pos mon_pl (fun b hb => adM0_pos V hb) (fun u _ => ini_b.1)
    have hm := L.2.2 (fun v => if v < 36 ∧ ¬ conn lc mc (fun b => opS w su pu b t) 60 c v then 1000000 else F v) (fun b hb => by
      have l1 := lc_lt b hb
      have l2 := mc_lt b hb
      have s := L.1 b hb
      have p1 := hp _ l1
      have p2 := hp _ l2
      have a := adM0_pos (su := su) (pu := pu) (t := t) V hb
      simp only [pl_e] at s ⊢
      have ub : ∀ v, v < 36 → F v ≤ 1000000 := fun v hv => Int.le_trans (L.2.1 v hv) ini_b.2
      have u1 := ub _ l1
      have u2 := ub _ l2
      cases ho : opS w su pu b t
      · rw [adM0_shut ho] at s ⊢
        split <;> split <;> omega
      · have ce : conn lc mc (fun b => opS w su pu b t) 60 (lc b) (mc b) := conn.ed hb ho
        by_cases g1 : conn lc mc (fun b => opS w su pu b t) 60 c (lc b)
        · have g2 := g1.tr ce
          rw [if_neg (fun z => z.2 g2), if_neg (fun z => z.2 g1)]
          exact s
        · have g2 : ¬ conn lc mc (fun b => opS w su pu b t) 60 c (mc b) := fun z => g1 (z.tr ce.sy)
          rw [if_pos ⟨l2, g2⟩, if_pos ⟨l1, g1⟩]
          omega) (fun v hv => by
      by_cases g1 : conn lc mc (fun b => opS w su pu b t) 60 c v
      · show (if _ then _ else _) ≤ _
        rw [if_neg (fun z => z.2 g1)]
        exact L.2.1 v hv
      · show (if _ then _ else _) ≤ _
        rw [if_pos ⟨hv, g1⟩]
        unfold ini
        by_cases e : v = c
        · exact absurd (by rw [e]; exact conn.rf) g1
        · rw [if_neg e]
          exact Int.le_refl _) u hu
    have hm : (if u < 36 ∧ ¬ conn lc mc (fun b => opS w su pu b t) 60 c u then (1000000 : Int) else F u) ≤ F u := hm
    rw [if_pos ⟨hu, g⟩] at hm
    omega
theorem conn_far (V : WW w) (hc : c < 36) (L : Lst pl (adM w su pu 0 t) (ini c) F) {u : Nat} (h : conn lc mc (fun b => opS w su pu b t) 60 c u) : F u ≤ 3600 := by
  have h0 : F c ≤ 0 := by
    have := L.2.1 c hc
    unfold ini at this
    rw [if_pos rfl] at this
    exact this
  have key : ∀ k : Nat, (∃ j : Nat, j ≤ k ∧ ∀ b, b < 60 → opS w su pu b t = true → (F (lc b) ≤ 100 * (j : Int) ↔ F (mc b) ≤ 100 * (j : Int))) ∨ (k : Int) + 1 ≤ nn (fun v => decide (F v ≤ 100 * (k : Int))) 36 := by
    intro k
    induction k with
    | zero =>
      refine Or.inr ?_
      have h1 := nn_one (p := fun v => decide (v = c)) (x := c) (N := 36) hc (decide_eq_true rfl) (fun u hu hp => of_decide_eq_true hp)
      have h2 := nn_mono (p := fun v => decide (v = c)) (q := fun v => decide (F v ≤ 100 * ((0 : Nat) : Int))) (N := 36) (fun v hv hp => by
        have e := of_decide_eq_true hp
        rw [e]
        exact decide_eq_true (by omega))
      omega
    | succ k ih =>
      rcases ih with ⟨j, hj, hcl⟩ | ih
      · exact Or.inl ⟨j, by omega, hcl⟩
      · by_cases hcl : ∀ b, b < 60 → opS w su pu b t = true → (F (lc b) ≤ 100 * (k : Int) ↔ F (mc b) ≤ 100 * (k : Int))
        · exact Or.inl ⟨k, by omega, hcl⟩
        · refine Or.inr ?_
          have hx : ∃ x, x < 36 ∧ ¬ F x ≤ 100 * (k : Int) ∧ F x ≤ 100 * ((k + 1 : Nat) : Int) := by
            classical
            by_cases hx : ∃ x, x < 36 ∧ ¬ F x ≤ 100 * (k : Int) ∧ F x ≤ 100 * ((k + 1 : Nat) : Int)
            · exact hx
            · exfalso
              refine hcl (fun b hb ho => ?_)
              have l1 := lc_lt b hb
              have l2 := mc_lt b hb
              have s := L.1 b hb
              have a := adM0_open V hb ho
              simp only [pl_e] at s
              constructor
              · intro g
                by_cases g2 : F (mc b) ≤ 100 * (k : Int)
                · exact g2
                · exact absurd ⟨mc b, l2, g2, by omega⟩ hx
              · intro g
                by_cases g2 : F (lc b) ≤ 100 * (k : Int)
                · exact g2
                · exact absurd ⟨lc b, l1, g2, by omega⟩ hx
          obtain ⟨x, x1, x2, x3⟩ := hx
          have := nn_lt (p := fun v => decide (F v ≤ 100 * (k : Int))) (q := fun v => decide (F v ≤ 100 * ((k + 1 : Nat) : Int))) (N := 36) (fun v hv hp => decide_eq_true (by have := of_decide_eq_true hp; omega)) x1 (decide_eq_false x2) (decide_eq_true x3)
          omega
  rcases key 36 with ⟨j, hj, hcl⟩ | hk
  · have := h (fun v => F v ≤ 100 * (j : Int)) (by omega) hcl
    omega
  · have := nn_b (p := fun v => decide (F v ≤ 100 * ((36 : Nat) : Int))) (N := 36)
    omega
theorem far_iff (V : WW w) (hc : c < 36) (L : Lst pl (adM w su pu 0 t) (ini c) F) {u : Nat} (hu : u < 36) : F u < 1000000 ↔ conn lc mc (fun b => opS w su pu b t) 60 c u :=
  ⟨far_conn V L hu, fun h => by have := conn_far V hc L h; omega⟩
end
section
variable {sc : Nat × (Nat → Int)} {d a : Nat} {h : am_H} {I J : am_I} {w : am_Wd}
theorem Fr292 {I : am_I} {G : Nat → Int} {p : Nat} (hp : p ≠ 292) : sr I 292 G p = I p := sr_ne hp
theorem m_manyReached (s : Sh h) : Cl sc (d + 1) mX12_manyReached [Vr (some 283)] (hI h I) = some (.inl (Vi (nn (fun u => decide (I 292 u < 1000000)) 36)), hI h I) := by
  have hr := sm_run (F := fun i z => Ru sc (d + 1) mX12_manyReached 5 [Vr (some 283), Vi z, Vi (i : Int)] [] (hI h I)) (f := fun u => if decide (I 292 u < 1000000) = true then 1 else 0) (N := 36) (fun i hi => by
    have hlt : (i : Int) < 36 := by omega
    have hb : 0 ≤ nn (fun u => decide (I 292 u < 1000000)) i ∧ nn (fun u => decide (I 292 u < 1000000)) i ≤ i := nn_b
    unfold nn at hb
    try dsimp only
    rw [q_X12_manyReached_5]
    simp (disch := first | (simp (disch := omega) only [w32_id]; omega) | omega) only [↓BM s, hlt, w32_succ, e_clI, e_clV, e_clP, e_clIx, e_clVx, e_clPx, e_xt, Int.toNat_natCast, Int.reduceToNat, bz0, bz1, Nat.add_zero, decide_eq_false_iff_not, decide_eq_true_eq, Int.reduceEq, Nat.reduceEqDiff, Int.reduceLT, Int.reduceLE, not_true_eq_false, not_false_eq_true, eq_self, ↓reduceIte]
    simp only [decide_eq_true_eq] at hb
    by_cases g : I 292 i < 1000000
    · rw [if_pos g, if_pos g, w32_id (by omega) (by omega)]
    · rw [if_neg g, if_neg g, w32_id (by omega) (by omega)])
  rw [q_X12_manyReached_0]
  refine hr.trans ?_
  rw [q_X12_manyReached_5, if_neg (by omega)]
  rfl
theorem m_waysOf (s : Sh h) (V : WW (I 284)) {f : Nat} (hf : f < 6) : ∃ G, Lst pl (adM (I 284) (I 283 18) (I 283 19) 0 (I 284 (307 + 4 * f + 1))) (ini (I 284 (307 + 4 * f)).toNat) G ∧ Cl sc (d + 8) mX12_waysOf [Vr (some 283), Vi (f : Int)] (hI h I) = some (.inl (Vi (nn (fun u => decide (G u < 1000000)) 36)), hI h (sr I 292 G)) := by
  have hv := V.fm hf
  obtain ⟨hm, hh⟩ : ∃ hm : Nat, I 284 (307 + 4 * f) = hm := ⟨(I 284 (307 + 4 * f)).toNat, by omega⟩
  have hm36 : hm < 36 := by omega
  obtain ⟨G, g1, g2⟩ := m_from (sc := sc) (d := d) s V hm36 (way := 0) (t := I 284 (307 + 4 * f + 1))
  rw [opv_pl (by decide)] at g1
  have g3 := m_manyReached (sc := sc) (d := d + 6) (I := sr I 292 G) s
  rw [sr_q] at g3
  refine ⟨G, by rw [hh, Int.toNat_natCast]; exact g1, ?_⟩
  rw [q_X12_waysOf_0]
  simp (disch := first | (simp (disch := omega) only [w32_id]; omega) | omega) only [↓BM s, m_ofFamily s, hh, g2, g3, e_clI, e_clV, e_clP, e_clIx, e_clVx, e_clPx, e_xt, Int.toNat_natCast, Int.reduceToNat, bz0, bz1, Nat.add_zero, decide_eq_false_iff_not, decide_eq_true_eq, Int.reduceEq, Nat.reduceEqDiff, Int.reduceLT, Int.reduceLE, not_true_eq_false, not_false_eq_true, eq_self, ↓reduceIte]
/-- the class's ways -/
theorem c_waysOf (s : Sh h) (R : CRep I 11 (I 284)) (V : WW (I 284)) {f : Nat} (hf : f < 6) : ∃ J lb, (Ps I J ∧ PcI lc mc (opE (I 284) (I 284 (307 + 4 * f + 1)) (-1)) 36 60 lb J) ∧ Cl sc (d + 3) mX11_waysOf [Vr (some 0), Vi (f : Int)] (hI h I) = some (.inl (Vi (nn (fun v => decide (lb v = lb (I 284 (307 + 4 * f)).toNat)) 36)), hI h J) := by
  have hv := V.fm hf
  obtain ⟨hm, hh⟩ : ∃ hm : Nat, I 284 (307 + 4 * f) = hm := ⟨(I 284 (307 + 4 * f)).toNat, by omega⟩
  have hm36 : hm < 36 := by omega
  have c := cty_of s isC_now
  obtain ⟨J, lb, ⟨k1, k2⟩, k3⟩ := c_ofCells (sc := sc) (d := d) (t := I 284 (307 + 4 * f + 1)) (x := -1) s c (by omega) R V
  have R2 : CRep J 11 (I 284) := k1.ks.c (by omega) R
  have h1 := R.cl hf
  have h2 := R2.ho hf
  have k4 := c_nodesWith (sc := sc) (d := d + 1) s k2 (by omega) hm36
  refine ⟨J, lb, ⟨k1, k2⟩, ?_⟩
  rw [hh, Int.toNat_natCast, q_X11_waysOf_0]
  simp (disch := first | (simp (disch := omega) only [w32_id]; omega) | omega) only [↓BO s, ↓BC c, ↓BP s, h1, k3, h2, hh, k4, e_clI, e_clV, e_clP, e_clIx, e_clVx, e_clPx, e_xt, Int.toNat_natCast, Int.reduceToNat, bz0, bz1, Nat.add_zero, decide_eq_false_iff_not, decide_eq_true_eq, Int.reduceEq, Nat.reduceEqDiff, Int.reduceLT, Int.reduceLE, not_true_eq_false, not_false_eq_true, eq_self, ↓reduceIte]
/-- both count the same -/
theorem ways_eq {lb : Nat → Nat} {E : Nat → Bool} {su pu t : Int} {hm : Nat} {G : Nat → Int} (V : WW w) (hm36 : hm < 36) (k : ∀ u v, u < 36 → v < 36 → (lb u = lb v ↔ conn lc mc E 60 u v)) (hE : E = fun b => opS w su pu b t) (L : Lst pl (adM w su pu 0 t) (ini hm) G) : nn (fun v => decide (lb v = lb hm)) 36 = nn (fun u => decide (G u < 1000000)) 36 := by
  refine nn_cg (fun u hu => ?_)
  rw [decide_eq_decide]
  have a := far_iff V hm36 L hu
  rw [← hE] at a
  exact (k u hm hu hm36).trans ⟨fun z => a.mpr z.sy, fun z => (a.mp z).sy⟩
end
