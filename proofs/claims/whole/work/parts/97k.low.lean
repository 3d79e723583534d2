/-! LOWEST, REACH -/
theorem conn_all : ∀ (n c o : Nat), c < 36 → o < 36 → ap o c = n → conn lc mc (fun _ => true) 60 c o := by
  intro n
  induction n with
  | zero =>
    intro c o hc ho ha
    rw [(ap_b o ho c hc).2 ha]
    exact conn.rf
  | succ n ih =>
    intro c o hc ho ha
    by_cases hoc : o = c
    · rw [hoc]
      exact conn.rf
    · obtain ⟨n1, n2, n3, n4⟩ := nx_s o ho c hc hoc
      have hb := (bo_lt o ho (nx o c) n1)
      have hb60 : (bo o (nx o c)).toNat < 60 := by omega
      have i1 := ih c (nx o c) hc n1 (by omega)
      have ce : conn lc mc (fun _ => true) 60 (lc (bo o (nx o c)).toNat) (mc (bo o (nx o c)).toNat) := conn.ed hb60 rfl
      rcases n4 with ⟨l, m⟩ | ⟨l, m⟩
      · rw [l, m] at ce
        exact i1.tr ce.sy
      · rw [l, m] at ce
        exact i1.tr ce
theorem ad2_open {w : am_Wd} (V : WW w) {t : Int} (ht : 0 ≤ t) {b : Nat} (hb : b < 60) : (opW w b t = true ↔ adM w (-1) (-1) 2 0 b ≤ t) ∧ 0 ≤ adM w (-1) (-1) 2 0 b ∧ adM w (-1) (-1) 2 0 b ≤ 999 := by
  have hv := V.fe hb
  unfold adM
  rw [if_neg (by decide), if_neg (by decide), opS_no]
  unfold opW
  simp only [decide_eq_true_eq]
  split <;> omega
section
variable {w : am_Wd} {c : Nat} {F : Nat → Int} {t : Int}
theorem opv2 (x a : Int) : opv 2 x a = max x a := rfl
theorem low_conn (V : WW w) (ht : 0 ≤ t ∧ t ≤ 999) (hc : c < 36) (L : Lst (opv 2) (adM w (-1) (-1) 2 0) (ini c) F) {o : Nat} (ho : o < 36) : F o ≤ t ↔ conn lc mc (opE w t (-1)) 60 c o := by
  have h0 : F c ≤ 0 := by
    have := L.2.1 c hc
    unfold ini at this
    rw [if_pos rfl] at this
    exact this
  have hop : ∀ b, opE w t (-1) b = opW w b t := fun b => by
    unfold opE
    rw [decide_eq_true (show (b : Int) ≠ -1 by omega), Bool.true_and]
  constructor
  · intro h
    classical
    by_cases g : conn lc mc (opE w t (-1)) 60 c o
    · exact g
    · exfalso
      have hm := L.2.2 (fun v => if v < 36 ∧ ¬ conn lc mc (opE w t (-1)) 60 c v then max (F v) (t + 1) else F v) (fun b hb => by
        have l1 := lc_lt b hb
        have l2 := mc_lt b hb
        have s := L.1 b hb
        have a := ad2_open V ht.1 hb
        simp only [opv2] at s ⊢
        cases hE : opW w b t
        · have a1 : ¬ adM w (-1) (-1) 2 0 b ≤ t := fun z => by have := a.1.mpr z; rw [hE] at this; cases this
          split <;> split <;> omega
        · have ce : conn lc mc (opE w t (-1)) 60 (lc b) (mc b) := conn.ed hb (by rw [hop]; exact hE)
          by_cases g1 : conn lc mc (opE w t (-1)) 60 c (lc b)
          · have g2 := g1.tr ce
            rw [if_neg (fun z => z.2 g2), if_neg (fun z => z.2 g1)]
            exact s
          · have g2 : ¬ conn lc mc (opE w t (-1)) 60 c (mc b) := fun z => g1 (z.tr ce.sy)
            rw [if_pos ⟨l2, g2⟩, if_pos ⟨l1, g1⟩]
            omega) (fun v hv => by
        have hl := L.2.1 v hv
        by_cases g1 : conn lc mc (opE w t (-1)) 60 c v
        · show (if _ then _ else _) ≤ _
          rw [if_neg (fun z => z.2 g1)]
          exact hl
        · show (if _ then _ else _) ≤ _
          rw [if_pos ⟨hv, g1⟩]
          unfold ini at hl ⊢
          by_cases e : v = c
          · exact absurd (by rw [e]; exact conn.rf) g1
          · rw [if_neg e] at hl ⊢
            omega) o ho
      have hm : (if o < 36 ∧ ¬ conn lc mc (opE w t (-1)) 60 c o then max (F o) (t + 1) else F o) ≤ F o := hm
      rw [if_pos ⟨ho, g⟩] at hm
      omega
  · intro h
    refine h (fun v => F v ≤ t) (by omega) (fun b hb hE => ?_)
    rw [hop] at hE
    have s := L.1 b hb
    have a := (ad2_open V ht.1 hb).1.mp hE
    simp only [opv2] at s
    constructor <;> (intro g; omega)
theorem low_b (V : WW w) (hc : c < 36) (L : Lst (opv 2) (adM w (-1) (-1) 2 0) (ini c) F) {o : Nat} (ho : o < 36) : 0 ≤ F o ∧ F o ≤ 999 := by
  refine ⟨L.pos (mon_v 2) (fun b hb => (ad2_open V (Int.le_refl 0) hb).2.1) (fun u _ => ini_b.1) o ho, (low_conn V (by omega) hc L ho).mpr ((conn_all _ c o hc ho rfl).cg (fun b hb _ => ?_))⟩
  have := (ad2_open V (t := 999) (by omega) hb).1.mpr (ad2_open V (t := 999) (by omega) hb).2.2
  unfold opE
  rw [decide_eq_true (show (b : Int) ≠ -1 by omega), Bool.true_and]
  exact this
end
theorem bsearch {X : Int → Int → am_V → am_I → am_R} {v : Int} (hv : 0 ≤ v ∧ v ≤ 999) {K : am_I → Prop} (hs : ∀ l s u J, 0 < s → s ≤ 512 → 0 ≤ l → l ≤ 999 → K J → ∃ u' J', K J' ∧ X l s u J = X (if l + s - 1 < 999 ∧ ¬ v ≤ l + s - 1 then l + s else l) (s / 2) u' J') : ∀ (k : Nat) (l : Int) (u : am_V) (J : am_I), k ≤ 9 → 0 ≤ l → l ≤ v → v ≤ l + 2 * ((2 ^ k : Nat) : Int) - 1 → K J → ∃ u' J', K J' ∧ X l ((2 ^ k : Nat) : Int) u J = X v 0 u' J' := by
  intro k
  induction k with
  | zero =>
    intro l u J hk h0 h1 h2 hK
    obtain ⟨u', J', k1, k2⟩ := hs l 1 u J (by omega) (by omega) h0 (by omega) hK
    refine ⟨u', J', k1, ?_⟩
    have e : ((2 ^ 0 : Nat) : Int) = 1 := rfl
    rw [e] at h2 ⊢
    rw [k2]
    congr 1
    split <;> omega
  | succ k ih =>
    intro l u J hk h0 h1 h2 hK
    have hp : 2 ^ (k + 1) = 2 * 2 ^ k := by rw [Nat.pow_succ]; omega
    have hp0 : 0 < 2 ^ k := Nat.pow_pos (by omega)
    have hp9 : 2 ^ (k + 1) ≤ 2 ^ 9 := Nat.pow_le_pow_right (by omega) hk
    have h9 : (2 : Nat) ^ 9 = 512 := rfl
    rw [h9, hp] at hp9
    rw [hp] at h2 ⊢
    generalize 2 ^ k = p at hp0 hp9 h2 ih
    obtain ⟨u', J', k1, k2⟩ := hs l ((2 * p : Nat) : Int) u J (by omega) (by omega) h0 (by omega) hK
    have e2 : ((2 * p : Nat) : Int) / 2 = (p : Int) := by omega
    rw [e2] at k2
    by_cases g : l + ((2 * p : Nat) : Int) - 1 < 999 ∧ ¬ v ≤ l + ((2 * p : Nat) : Int) - 1
    · rw [if_pos g] at k2
      obtain ⟨u2, J2, q1, q2⟩ := ih (l + ((2 * p : Nat) : Int)) u' J' (by omega) (by omega) (by omega) (by omega) k1
      exact ⟨u2, J2, q1, k2.trans q2⟩
    · rw [if_neg g] at k2
      obtain ⟨u2, J2, q1, q2⟩ := ih l u' J' (by omega) h0 h1 (by omega) k1
      exact ⟨u2, J2, q1, k2.trans q2⟩
section
variable {sc : Nat × (Nat → Int)} {d a : Nat} {h : am_H} {I J : am_I} {w : am_Wd}
theorem c_isWay (s : Sh h) (R : CRep I 11 (I 284)) (V : WW (I 284)) {t : Int} {u v : Nat} (hu : u < 36) (hv : v < 36) : ∃ J b, (Ps I J ∧ (b = true ↔ conn lc mc (opE (I 284) t (-1)) 60 u v)) ∧ Cl sc (d + 3) mX11_isWayBetween [Vr (some 0), Vi (u : Int), Vi (v : Int), Vi t] (hI h I) = some (.inl (Vi (bz b)), hI h J) := by
  have c := cty_of s isC_now
  obtain ⟨J, lb, ⟨k1, k2⟩, k3⟩ := c_ofCells (sc := sc) (d := d) (t := t) (x := -1) s c (by omega) R V
  have k4 := c_areTogether (sc := sc) (d := d + 1) s k2 (by omega) hu hv
  refine ⟨J, decide (lb u = lb v), ⟨k1, ?_⟩, ?_⟩
  · rw [decide_eq_true_eq]
    exact k2.1.2 u v hu hv
  · rw [q_X11_isWayBetween_0]
    simp (disch := first | (simp (disch := omega) only [w32_id]; omega) | omega) only [↓BO s, ↓BP s, k3, k4, e_ret1 (bz01 _), e_clI, e_clV, e_clP, e_clIx, e_clVx, e_clPx, e_xt, Int.toNat_natCast, Int.reduceToNat, bz0, bz1, Nat.add_zero, decide_eq_false_iff_not, decide_eq_true_eq, Int.reduceEq, Nat.reduceEqDiff, Int.reduceLT, Int.reduceLE, not_true_eq_false, not_false_eq_true, eq_self, ↓reduceIte]
theorem p_lowest (r : Rel h I) {x y : Int} : Pub h I (Cl sc (d + 30) mX11_lowest [Vr (some 0), Vi x, Vi y]) (Cl sc (d + 30) mX12_lowest [Vr (some 283), Vi x, Vi y]) cdA := by
  have R := r.R
  have V := r.V
  by_cases hxy : (0 ≤ x ∧ x < 36) ∧ 0 ≤ y ∧ y < 36
  · obtain ⟨hx, hy⟩ := hxy
    obtain ⟨b, rfl⟩ : ∃ b : Nat, x = b := ⟨x.toNat, by omega⟩
    obtain ⟨c, rfl⟩ : ∃ c : Nat, y = c := ⟨y.toNat, by omega⟩
    have hb : b < 36 := by omega
    have hc : c < 36 := by omega
    obtain ⟨G0, g0, -⟩ := m_from (sc := sc) (d := d) (I := I) r.1 V hb (way := 2) (t := 0)
    rw [rel18 r, rel19 r] at g0
    have hv := low_b V hb g0 hc
    obtain ⟨u', J', k1, k2⟩ := bsearch (X := fun l s u J => Ru sc (d + 30) mX11_lowest 9 [Vr (some 0), Vi (b : Int), Vi (c : Int), Vi l, Vi s, u] [] (hI h J)) hv (K := fun J => Ps I J) (fun l s u J hs0 hs1 hl0 hl1 hK => by
      have e1 : w32 (w32 (l + s) - 1) = l + s - 1 := by rw [w32_id (z := l + s) (by omega) (by omega), w32_id (by omega) (by omega)]
      have e2 : w32 (l + s - 1 + 1) = l + s := by clear e1; rw [w32_id (by omega) (by omega)]; omega
      have e3 : w32 (s.tdiv 2) = s / 2 := by clear e1 e2; rw [td_e (by omega), w32_id (by omega) (by omega)]
      have f284 : J 284 = I 284 := hK 284 (by omega)
      have R2 : CRep J 11 (J 284) := by rw [f284]; exact hK.ks.c (by omega) R
      have V2 : WW (J 284) := by rw [f284]; exact V
      try dsimp only
      rw [q_X11_lowest_9, if_pos hs0, e1, e2, e3]
      clear e1 e2 e3
      by_cases g1 : l + s - 1 < 999
      · obtain ⟨J2, bb, ⟨m1, m2⟩, m3⟩ := c_isWay (sc := sc) (d := d + 26) (t := l + s - 1) r.1 R2 V2 hb hc
        rw [f284] at m2
        rw [if_pos g1, (BO r.1).1, m3, e_clI]
        have lo := low_conn V (t := l + s - 1) (by omega) hb g0 hc
        cases bb
        · have g2 : ¬ G0 c ≤ l + s - 1 := fun z => by have := m2.mpr (lo.mp z); cases this
          refine ⟨Vi (l + s - 1), J2, hK.tr m1, ?_⟩
          rw [if_pos (show bz false = 0 from rfl), if_neg (by decide), if_pos ⟨g1, g2⟩]
        · have g2 : G0 c ≤ l + s - 1 := lo.mpr (m2.mp rfl)
          refine ⟨Vi (l + s - 1), J2, hK.tr m1, ?_⟩
          rw [if_neg (by decide), if_neg (by decide), if_neg (fun z => z.2 g2)]
      · refine ⟨Vi (l + s - 1), J, hK, ?_⟩
        rw [if_neg g1, if_neg (by decide), if_neg (fun z => g1 z.1)]) 9 0 (Vx 0) I (Nat.le_refl 9) (Int.le_refl 0) hv.1 (by have : (2 : Nat) ^ 9 = 512 := rfl; rw [this]; omega) (Ps.rf I)
    refine pubQ (x := 0) (v := G0 c) (v' := G0 c) r (CO.ok (J := J') ?_ k1.sm) (fun h1 J1 r1 e1 => ?_) (fun _ => rfl)
    · rw [q_X11_lowest_0]
      simp (disch := first | (simp (disch := omega) only [w32_id]; omega) | omega) only [c_nC hx, c_nC hy, e_clI, e_clV, e_clP, e_clIx, e_clVx, e_clPx, e_xt, Int.toNat_natCast, Int.reduceToNat, bz0, bz1, Nat.add_zero, decide_eq_false_iff_not, decide_eq_true_eq, Int.reduceEq, Nat.reduceEqDiff, Int.reduceLT, Int.reduceLE, not_true_eq_false, not_false_eq_true, eq_self, ↓reduceIte]
      refine k2.trans ?_
      try dsimp only
      rw [q_X11_lowest_9, if_neg (by decide)]
    · have V2 : WW (am_u2 J1 283 0 0 284) := by rw [w283, e1.w]; exact V
      obtain ⟨G, g1, g2⟩ := m_from (sc := sc) (d := d + 22) (I := am_u2 J1 283 0 0) r1.1 V2 hb (way := 2) (t := 0)
      rw [w283, e1.w, u2_j (by decide), u2_j (by decide), rel18 r1, rel19 r1] at g1
      have e := g0.uni g1 c hc
      refine MO.okJ (J := sr (am_u2 J1 283 0 0) 292 G) ?_ (s283.tr sr292) (by rw [sr_ne (by decide)]; exact u2_same)
      have hz : (0 : Int) ≤ 0 ∧ (0 : Int) ≤ 999 := by omega
      rw [q_X12_lowest_0]
      simp (disch := first | (simp (disch := omega) only [w32_id]; omega) | omega) only [↓BM r1.1, m_nCs r1.1 hx hy hz, g2, sr_q, e_clI, e_clV, e_clP, e_clIx, e_clVx, e_clPx, e_xt, Int.toNat_natCast, Int.reduceToNat, bz0, bz1, Nat.add_zero, decide_eq_false_iff_not, decide_eq_true_eq, Int.reduceEq, Nat.reduceEqDiff, Int.reduceLT, Int.reduceLE, not_true_eq_false, not_false_eq_true, eq_self, ↓reduceIte]
      rw [e]
  · refine pubQ (x := 3) (v := 0) (v' := 0) r (CO.no (J := I) (by decide) ?_ (Same.rf I)) (fun h1 J1 r1 e1 => ?_) (fun h => absurd h (by decide))
    · rw [q_X11_lowest_0]
      by_cases hx : 0 ≤ x ∧ x < 36
      · simp (disch := first | (simp (disch := omega) only [w32_id]; omega) | omega) only [c_nC hx, c_nCx (fun q => hxy ⟨hx, q⟩), hI_exI, e_clI, e_clV, e_clP, e_clIx, e_clVx, e_clPx, e_xt, Int.toNat_natCast, Int.reduceToNat, bz0, bz1, Nat.add_zero, decide_eq_false_iff_not, decide_eq_true_eq, Int.reduceEq, Nat.reduceEqDiff, Int.reduceLT, Int.reduceLE, not_true_eq_false, not_false_eq_true, eq_self, ↓reduceIte]
      · simp (disch := first | (simp (disch := omega) only [w32_id]; omega) | omega) only [c_nCx hx, hI_exI, e_clI, e_clV, e_clP, e_clIx, e_clVx, e_clPx, e_xt, Int.toNat_natCast, Int.reduceToNat, bz0, bz1, Nat.add_zero, decide_eq_false_iff_not, decide_eq_true_eq, Int.reduceEq, Nat.reduceEqDiff, Int.reduceLT, Int.reduceLE, not_true_eq_false, not_false_eq_true, eq_self, ↓reduceIte]
    · refine MO.thr ?_
      rw [q_X12_lowest_0]
      simp (disch := first | (simp (disch := omega) only [w32_id]; omega) | omega) only [↓BM r1.1, m_nCsx r1.1 hxy, e_clI, e_clV, e_clP, e_clIx, e_clVx, e_clPx, e_xt, Int.toNat_natCast, Int.reduceToNat, bz0, bz1, Nat.add_zero, decide_eq_false_iff_not, decide_eq_true_eq, Int.reduceEq, Nat.reduceEqDiff, Int.reduceLT, Int.reduceLE, not_true_eq_false, not_false_eq_true, eq_self, ↓reduceIte]
      try rfl
/-- the dearest way from the first home -/
def rcW (w : am_Wd) (G : Nat → Int) : Nat → Int
  | 0 => 0
  | n + 1 => if n = 0 then 0 else max (rcW w G n) (G (w (307 + 4 * n)).toNat)
theorem rcW_tg (V : WW w) {lb : Nat → Nat} {G : Nat → Int} {t : Int} (ht : 0 ≤ t) (k : ∀ o, o < 36 → (lb (w 307).toNat = lb o ↔ G o ≤ t)) : ∀ {n : Nat}, n ≤ 6 → (tgW w lb n = true ↔ rcW w G n ≤ t)
  | 0, _ => ⟨fun _ => ht, fun _ => rfl⟩
  | n + 1, hn => by
    have vn := V.fm (f := n) (by omega)
    have ih := rcW_tg V ht k (n := n) (by omega)
    show ((tgW w lb n && (decide (n = 0) || decide (lb (w 307).toNat = lb (w (307 + 4 * n)).toNat))) = true ↔ (if n = 0 then 0 else max (rcW w G n) (G (w (307 + 4 * n)).toNat)) ≤ t)
    by_cases h0 : n = 0
    · subst h0
      rw [if_pos rfl, decide_eq_true rfl, Bool.true_or, Bool.and_true]
      exact ⟨fun _ => ht, fun _ => rfl⟩
    · rw [if_neg h0, decide_eq_false h0, Bool.false_or, Bool.and_eq_true, decide_eq_true_eq, ih, k _ (by omega)]
      omega
theorem rcW_b (V : WW w) {G : Nat → Int} (hG : ∀ o, o < 36 → 0 ≤ G o ∧ G o ≤ 999) : ∀ {n : Nat}, n ≤ 6 → 0 ≤ rcW w G n ∧ rcW w G n ≤ 999
  | 0, _ => ⟨Int.le_refl 0, (by show (0 : Int) ≤ 999; omega)⟩
  | n + 1, hn => by
    have vn := V.fm (f := n) (by omega)
    have ih := rcW_b V hG (n := n) (by omega)
    have := hG (w (307 + 4 * n)).toNat (by omega)
    show 0 ≤ (if n = 0 then 0 else max (rcW w G n) (G (w (307 + 4 * n)).toNat)) ∧ (if n = 0 then 0 else max (rcW w G n) (G (w (307 + 4 * n)).toNat)) ≤ 999
    split <;> omega
theorem p_reach (r : Rel h I) : Pub h I (Cl sc (d + 30) mX11_reach [Vr (some 0)]) (Cl sc (d + 30) mX12_reach [Vr (some 283)]) cdA := by
  have R := r.R
  have V := r.V
  have hF := V.fa
  have v0 := V.fm (f := 0) (by omega)
  obtain ⟨b, hbe⟩ : ∃ b : Nat, I 284 307 = b := ⟨(I 284 307).toNat, by have : I 284 (307 + 4 * 0) = I 284 307 := rfl; omega⟩
  have hb : b < 36 := by have : I 284 (307 + 4 * 0) = I 284 307 := rfl; omega
  obtain ⟨G0, g0, -⟩ := m_from (sc := sc) (d := d) (I := I) r.1 V hb (way := 2) (t := 0)
  rw [rel18 r, rel19 r] at g0
  have hv := rcW_b V (G := G0) (fun o ho => low_b V hb g0 ho) (n := (I 284 0).toNat) (by omega)
  obtain ⟨u', J', k1, k2⟩ := bsearch (X := fun l s u J => Ru sc (d + 30) mX11_reach 5 [Vr (some 0), Vi l, Vi s, u] [] (hI h J)) hv (K := fun J => Ps I J) (fun l s u J hs0 hs1 hl0 hl1 hK => by
    have e1 : w32 (w32 (l + s) - 1) = l + s - 1 := by rw [w32_id (z := l + s) (by omega) (by omega), w32_id (by omega) (by omega)]
    have e2 : w32 (l + s - 1 + 1) = l + s := by clear e1; rw [w32_id (by omega) (by omega)]; omega
    have e3 : w32 (s.tdiv 2) = s / 2 := by clear e1 e2; rw [td_e (by omega), w32_id (by omega) (by omega)]
    have f284 : J 284 = I 284 := hK 284 (by omega)
    have R2 : CRep J 11 (J 284) := by rw [f284]; exact hK.ks.c (by omega) R
    have V2 : WW (J 284) := by rw [f284]; exact V
    try dsimp only
    rw [q_X11_reach_5, if_pos hs0, e1, e2, e3]
    clear e1 e2 e3
    by_cases g1 : l + s - 1 < 999
    · obtain ⟨J2, lb, ⟨m1, m2⟩, m3⟩ := c_homes (sc := sc) (d := d + 26) (t := l + s - 1) r.1 R2 V2
      rw [f284] at m2 m3
      have lo := rcW_tg V (lb := lb) (G := G0) (t := l + s - 1) (by omega) (fun o ho => by
        rw [hbe, Int.toNat_natCast]
        exact (m2.1.2 b o hb ho).trans (low_conn V (by omega) hb g0 ho).symm) (n := (I 284 0).toNat) (by omega)
      rw [if_pos g1, (BO r.1).1, m3, e_clI]
      cases hbb : tgW (I 284) lb (I 284 0).toNat
      · rw [hbb] at lo
        have g2 : ¬ rcW (I 284) G0 (I 284 0).toNat ≤ l + s - 1 := fun z => by have := lo.mpr z; cases this
        refine ⟨Vi (l + s - 1), J2, hK.tr m1, ?_⟩
        rw [if_pos (show bz false = 0 from rfl), if_neg (by decide), if_pos ⟨g1, g2⟩]
      · rw [hbb] at lo
        have g2 : rcW (I 284) G0 (I 284 0).toNat ≤ l + s - 1 := lo.mp rfl
        refine ⟨Vi (l + s - 1), J2, hK.tr m1, ?_⟩
        rw [if_neg (by decide), if_neg (by decide), if_neg (fun z => z.2 g2)]
    · refine ⟨Vi (l + s - 1), J, hK, ?_⟩
      rw [if_neg g1, if_neg (by decide), if_neg (fun z => g1 z.1)]) 9 0 (Vx 0) I (Nat.le_refl 9) (Int.le_refl 0) hv.1 (by have : (2 : Nat) ^ 9 = 512 := rfl; rw [this]; omega) (Ps.rf I)
  refine pubQ (x := 0) (v := rcW (I 284) G0 (I 284 0).toNat) (v' := rcW (I 284) G0 (I 284 0).toNat) r (CO.ok (J := J') ?_ k1.sm) (fun h1 J1 r1 e1 => ?_) (fun _ => rfl)
  · rw [q_X11_reach_0]
    refine k2.trans ?_
    try dsimp only
    rw [q_X11_reach_5, if_neg (by decide)]
  · have V2 : WW (am_u2 J1 283 0 0 284) := by rw [w283, e1.w]; exact V
    have hmgo : ∀ n, 1 ≤ n → n ≤ (I 284 0).toNat → ∃ L, Fr (am_u2 J1 283 0 0) L ∧ Ru sc (d + 30) mX12_reach 8 [Vr (some 283), Vi 0, Vi 1] [] (hI h1 (am_u2 J1 283 0 0)) = Ru sc (d + 30) mX12_reach 8 [Vr (some 283), Vi (rcW (I 284) G0 n), Vi (n : Int)] [] (hI h1 L) := by
      intro n h1n
      induction n with
      | zero => exact absurd h1n (by omega)
      | succ n ih =>
        intro hn
        by_cases hn0 : n = 0
        · subst hn0
          exact ⟨_, Fr.rf _, rfl⟩
        · obtain ⟨L, a1, a2⟩ := ih (by omega) (by omega)
          have hlt : (n : Int) < I 284 0 := by omega
          have f284 : L 284 = I 284 := by rw [a1 284 (by decide), w283, e1.w]
          have f18 : L 283 18 = -1 := by rw [a1 283 (by decide), u2_j (by decide)]; exact rel18 r1
          have f19 : L 283 19 = -1 := by rw [a1 283 (by decide), u2_j (by decide)]; exact rel19 r1
          have V3 : WW (L 284) := by rw [f284]; exact V
          obtain ⟨G, g1, g2⟩ := m_from (sc := sc) (d := d + 22) (I := L) r1.1 V3 hb (way := 2) (t := 0)
          rw [f284, f18, f19] at g1
          have vn := V.fm (f := n) (by omega)
          obtain ⟨z, hz⟩ : ∃ z : Nat, I 284 (307 + 4 * n) = z := ⟨(I 284 (307 + 4 * n)).toNat, by omega⟩
          have hz36 : z < 36 := by omega
          have e := g0.uni g1 z hz36
          have o0 := m_ofFamily (sc := sc) (d := d + 27) (I := L) (f := 0) (k := 0) r1.1 (by decide) (by decide)
          have o0' : Cl sc (d + 29) mX12_ofFamily [Vr (some 283), Vi 0, Vi 0] (hI h1 L) = some (.inl (Vi (b : Int)), hI h1 L) := by
            refine o0.trans ?_
            rw [f284]
            exact lf hbe
          have es : rcW (I 284) G0 (n + 1) = max (rcW (I 284) G0 n) (G0 z) := by
            show (if n = 0 then 0 else max (rcW (I 284) G0 n) (G0 (I 284 (307 + 4 * n)).toNat)) = _
            rw [if_neg hn0, hz, Int.toNat_natCast]
          refine ⟨sr L 292 G, fun p hp => (sr_ne hp).trans (a1 p hp), ?_⟩
          have f284b : sr L 292 G 284 = I 284 := by rw [sr_ne (by decide)]; exact f284
          rw [a2, q_X12_reach_8, es, e]
          simp (disch := first | (simp (disch := omega) only [w32_id]; omega) | omega) only [↓BM r1.1, m_families r1.1, f284, hlt, o0', g2, m_ofFamily r1.1, f284b, hz, sr_q, c_max, w32_succ, e_clI, e_clV, e_clP, e_clIx, e_clVx, e_clPx, e_xt, Int.toNat_natCast, Int.reduceToNat, bz0, bz1, Nat.add_zero, decide_eq_false_iff_not, decide_eq_true_eq, Int.reduceEq, Nat.reduceEqDiff, Int.reduceLT, Int.reduceLE, not_true_eq_false, not_false_eq_true, eq_self, ↓reduceIte]
    have hend : ∀ (n : Nat) (v : Int) (L : am_I), L 284 = I 284 → ¬ (n : Int) < I 284 0 → Ru sc (d + 30) mX12_reach 8 [Vr (some 283), Vi v, Vi (n : Int)] [] (hI h1 L) = some (.inl (Vi v), hI h1 L) := fun n v L e hlt => by
      rw [q_X12_reach_8]
      simp (disch := first | (simp (disch := omega) only [w32_id]; omega) | omega) only [↓BM r1.1, m_families r1.1, e, hlt, e_clI, e_clV, e_clP, e_clIx, e_clVx, e_clPx, e_xt, Int.toNat_natCast, Int.reduceToNat, bz0, bz1, Nat.add_zero, decide_eq_false_iff_not, decide_eq_true_eq, Int.reduceEq, Nat.reduceEqDiff, Int.reduceLT, Int.reduceLE, not_true_eq_false, not_false_eq_true, eq_self, ↓reduceIte]
    by_cases h0 : (I 284 0).toNat = 0
    · refine MO.ok0 ?_
      have := hend 1 0 (am_u2 J1 283 0 0) (by rw [w283, e1.w]) (by omega)
      rw [q_X12_reach_0, h0]
      simp (disch := first | (simp (disch := omega) only [w32_id]; omega) | omega) only [↓BM r1.1, e_clI, e_clV, e_clP, e_clIx, e_clVx, e_clPx, e_xt, Int.toNat_natCast, Int.reduceToNat, bz0, bz1, Nat.add_zero, decide_eq_false_iff_not, decide_eq_true_eq, Int.reduceEq, Nat.reduceEqDiff, Int.reduceLT, Int.reduceLE, not_true_eq_false, not_false_eq_true, eq_self, ↓reduceIte]
      exact this
    · obtain ⟨L, a1, a2⟩ := hmgo (I 284 0).toNat (by omega) (Nat.le_refl _)
      refine MO.okJ (J := L) ?_ (s283.tr a1.sm) (by rw [a1 283 (by decide)]; exact u2_same)
      have f284 : L 284 = I 284 := by rw [a1 284 (by decide), w283, e1.w]
      rw [q_X12_reach_0]
      simp (disch := first | (simp (disch := omega) only [w32_id]; omega) | omega) only [↓BM r1.1, e_clI, e_clV, e_clP, e_clIx, e_clVx, e_clPx, e_xt, Int.toNat_natCast, Int.reduceToNat, bz0, bz1, Nat.add_zero, decide_eq_false_iff_not, decide_eq_true_eq, Int.reduceEq, Nat.reduceEqDiff, Int.reduceLT, Int.reduceLE, not_true_eq_false, not_false_eq_true, eq_self, ↓reduceIte]
      rw [a2]
      exact hend _ _ L f284 (by omega)
end
