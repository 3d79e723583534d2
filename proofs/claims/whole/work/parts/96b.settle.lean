/-! THE CLASS'S COSTS: fill, settle, spread -/
def sr (I : am_I) (q : Nat) (C : Nat → Int) : am_I := fun k => if k = q then C else I k
theorem sr_q {I : am_I} {q : Nat} {C : Nat → Int} : sr I q C q = C := if_pos rfl
theorem sr_ne {I : am_I} {q k : Nat} {C : Nat → Int} (h : k ≠ q) : sr I q C k = I k := if_neg h
theorem sr_self {I : am_I} {q : Nat} : sr I q (I q) = I := by
  funext k
  unfold sr
  split
  · rename_i h; rw [h]
  · rfl
theorem u2_sr {I : am_I} {q u : Nat} {C : Nat → Int} {v : Int} : am_u2 (sr I q C) q u v = sr I q (up C u v) := by
  funext k j
  unfold am_u2 sr up
  by_cases h : k = q
  · subst h; simp
  · simp [h]
theorem u2_as {I : am_I} {q u : Nat} {v : Int} : am_u2 I q u v = sr I q (up (I q) u v) := by
  rw [← u2_sr, sr_self]
theorem sr_sr {I : am_I} {q : Nat} {C D : Nat → Int} : sr (sr I q C) q D = sr I q D := by
  funext k
  unfold sr
  split <;> rfl
theorem fo_up {x : Int} {C : Nat → Int} : ∀ n, fo (fun i C => up C i x) n C = fun u => if u < n then x else C u
  | 0 => by
    funext u
    rw [if_neg (Nat.not_lt_zero u)]
    rfl
  | n + 1 => by
    funext u
    show up (fo (fun i C => up C i x) n C) n x u = _
    rw [fo_up n]
    unfold up
    by_cases h : u = n
    · rw [if_pos h, if_pos (by omega)]
    · rw [if_neg h]
      try dsimp only
      by_cases h2 : u < n
      · rw [if_pos h2, if_pos (by omega)]
      · rw [if_neg h2, if_neg (by omega)]
section
variable {sc : Nat × (Nat → Int)} {d q n : Nat} {h : am_H} {I : am_I}
theorem c_fill (hq : hT h q = (1, n)) (hn : n ≤ 100000) {x : Int} : Cl sc (d + 1) mJ7_fill_53178 [Vr (some q), Vi x] (hI h I) = some (.inl (Vx 0), hI h (sr I q (fun u => if u < n then x else I q u))) := by
  rw [q_J7_fill_53178_0, e_lenA hq (by decide) (by decide)]
  have hr := fo_run0 (F := fun i C => Ru sc (d + 1) mJ7_fill_53178 6 [Vr (some q), Vi x, Vi (i : Int), Vi (n : Int)] [] (hI h (sr I q C))) (f := fun i C => up C i x) (N := n) (s0 := I q) (fun i C hi => by
    try dsimp only
    rw [q_J7_fill_53178_6, if_pos (by omega), e_stA hq (by omega) (by omega), Int.toNat_natCast, u2_sr, w32_succ (by omega)])
  try dsimp only at hr
  rw [sr_self] at hr
  refine Eq.trans hr ?_
  rw [q_J7_fill_53178_6, if_neg (by omega), fo_up]
/-- what a border costs, as the class keeps it -/
def adC (I : am_I) (b : Nat) : Int := if I 54 b = -1 then 1000000 else I 54 b
def okC (I : am_I) : Prop := ∀ b, b < 60 → I 54 b = -1 ∨ (0 ≤ I 54 b ∧ I 54 b ≤ 1000)
def bnd (C : Nat → Int) (N : Nat) : Prop := ∀ u, u < N → 0 ≤ C u ∧ C u ≤ 1000000
theorem bnd_rx {e1 e2 : Nat → Nat} {ad C : Nat → Int} {b N : Nat} (h1 : e1 b < N) (h2 : e2 b < N) (ha : 0 ≤ ad b) (hC : bnd C N) : bnd (rx pl e1 e2 ad b C) N := fun u hu => by
  have c1 := hC _ h1
  have c2 := hC _ h2
  have c3 := hC u hu
  have c4 := rx_le (op := pl) (e1 := e1) (e2 := e2) (ad := ad) (b := b) (C := C) u
  refine ⟨?_, by omega⟩
  unfold rx up pl
  split
  · dsimp only
    split <;> omega
  · split
    · dsimp only
      split <;> omega
    · omega
/-- one border -/
def fS (e1 e2 : Nat → Nat) (I : am_I) (b : Nat) (s : (Nat → Int) × Int × am_V × am_V) : (Nat → Int) × Int × am_V × am_V :=
  if I 54 b = -1 then s else (rx pl e1 e2 (adC I) b s.1, if pl (s.1 (e1 b)) (adC I b) < s.1 (e2 b) then 1 else if pl (s.1 (e2 b)) (adC I b) < s.1 (e1 b) then 1 else s.2.1, Vi (e1 b : Nat), Vi (e2 b : Nat))
def isE (t : Int) (e1 e2 : Nat → Nat) (N : Nat) : Prop := (t = 0 ∧ e1 = lc ∧ e2 = mc ∧ N = 36) ∨ (t = 1 ∧ e1 = lk ∧ e2 = mk ∧ N = 49)
theorem isE.lt {t : Int} {e1 e2 : Nat → Nat} {N : Nat} (h : isE t e1 e2 N) : ∀ b, b < 60 → e1 b < N ∧ e2 b < N := by
  rcases h with ⟨-, rfl, rfl, rfl⟩ | ⟨-, rfl, rfl, rfl⟩
  · exact fun b hb => ⟨lc_lt b hb, mc_lt b hb⟩
  · exact fun b hb => ⟨lk_lt b hb, mk_lt b hb⟩
theorem isE.pos {t : Int} {e1 e2 : Nat → Nat} {N : Nat} (h : isE t e1 e2 N) : 0 < N ∧ N ≤ 49 := by
  rcases h with ⟨-, -, -, rfl⟩ | ⟨-, -, -, rfl⟩ <;> exact ⟨by decide, by decide⟩
theorem st_step (s : Sh h) (hq : hT h q = (1, n)) (h54 : q ≠ 54) {t : Int} {e1 e2 : Nat → Nat} {N : Nat} (hE : isE t e1 e2 N) (hN : N ≤ n) (hA : okC I) {b : Nat} (hb : b < 60) {z : (Nat → Int) × Int × am_V × am_V} (hC : bnd z.1 N) {r : Int} :
    Ru sc (d + 4) mX7_settle 15 [Vr (some 53), Vr (some q), Vi t, Vi z.2.1, Vi r, Vi (b : Int), z.2.2.1, z.2.2.2] [] (hI h (sr I q z.1)) = Ru sc (d + 4) mX7_settle 15 [Vr (some 53), Vr (some q), Vi t, Vi (fS e1 e2 I b z).2.1, Vi r, Vi ((b + 1 : Nat) : Int), (fS e1 e2 I b z).2.2.1, (fS e1 e2 I b z).2.2.2] [] (hI h (sr I q (fS e1 e2 I b z).1)) := by
  obtain ⟨C, ch, u6, u7⟩ := z
  try dsimp only at hC ⊢
  have hlt := hE.lt b hb
  have e54 : sr I q C 54 = I 54 := sr_ne (fun e => h54 e.symm)
  have c1 := hC _ hlt.1
  have c2 := hC _ hlt.2
  have hAb := hA b hb
  have h41 : ¬ I 54 b = -1 → Ru sc (d + 4) mX7_settle 15 [Vr (some 53), Vr (some q), Vi t, Vi ch, Vi r, Vi (b : Int), u6, u7] [] (hI h (sr I q C)) = Ru sc (d + 4) mX7_settle 41 [Vr (some 53), Vr (some q), Vi t, Vi ch, Vi r, Vi (b : Int), Vi (e1 b : Nat), u7] [Vi (e2 b : Nat)] (hI h (sr I q C)) := by
    intro hne
    rw [q_X7_settle_15, if_pos (by omega)]
    simp (disch := first | (simp (disch := omega) only [w32_id]; omega) | omega) only [↓BW s, e_clI, e_clV, e_clP, e_clIx, e_clVx, e_clPx, e_xt, Int.toNat_natCast, Int.reduceToNat, bz0, bz1, Nat.add_zero, decide_eq_false_iff_not, decide_eq_true_eq, Int.reduceEq, Nat.reduceEqDiff, Int.reduceLT, Int.reduceLE, not_true_eq_false, not_false_eq_true, ↓reduceIte]
    simp only [e54]
    rw [if_neg hne]
    rcases hE with ⟨rfl, rfl, rfl, rfl⟩ | ⟨rfl, rfl, rfl, rfl⟩
    · rw [if_pos rfl, c_lessCell hb, e_clI, if_pos rfl, c_moreCell hb, e_clI]
    · rw [if_neg (by decide), c_lessCorner hb, e_clI, if_neg (by decide), c_moreCorner hb, e_clI]
  unfold fS
  try dsimp only
  by_cases hne : I 54 b = -1
  · rw [if_pos hne]
    rw [q_X7_settle_15, if_pos (by omega)]
    simp (disch := first | (simp (disch := omega) only [w32_id]; omega) | omega) only [↓BW s, e_clI, e_clV, e_clP, e_clIx, e_clVx, e_clPx, e_xt, Int.toNat_natCast, Int.reduceToNat, bz0, bz1, Nat.add_zero, decide_eq_false_iff_not, decide_eq_true_eq, Int.reduceEq, Nat.reduceEqDiff, Int.reduceLT, Int.reduceLE, not_true_eq_false, not_false_eq_true, ↓reduceIte]
    simp only [e54]
    rw [if_pos hne, w32_succ (by omega)]
  · rw [if_neg hne, h41 hne, q_X7_settle_41]
    have ea : adC I b = I 54 b := if_neg hne
    simp (disch := first | (simp (disch := omega) only [w32_id]; omega) | omega) only [↓BW s, e_ldA hq, e_stA hq, sr_q, e_clI, e_clV, e_clP, e_clIx, e_clVx, e_clPx, e_xt, Int.toNat_natCast, Int.reduceToNat, bz0, bz1, Nat.add_zero, decide_eq_false_iff_not, decide_eq_true_eq, Int.reduceEq, Nat.reduceEqDiff, Int.reduceLT, Int.reduceLE, not_true_eq_false, not_false_eq_true, ↓reduceIte]
    simp only [e54, ea, pl_e]
    rw [w32_id (z := C (e1 b) + I 54 b) (by omega) (by omega), w32_id (z := C (e2 b) + I 54 b) (by omega) (by omega), w32_succ (by omega)]
    unfold rx pl
    rw [ea]
    by_cases g1 : C (e1 b) + I 54 b < C (e2 b)
    · rw [if_pos g1, if_pos g1, if_pos g1, u2_sr]
    · rw [if_neg g1, if_neg g1, if_neg g1]
      by_cases g2 : C (e2 b) + I 54 b < C (e1 b)
      · rw [if_pos g2, if_pos g2, if_pos g2, u2_sr]
      · rw [if_neg g2, if_neg g2, if_neg g2]
/-- a round -/
theorem st_round (s : Sh h) (hq : hT h q = (1, n)) (h54 : q ≠ 54) {t : Int} {e1 e2 : Nat → Nat} {N : Nat} (hE : isE t e1 e2 N) (hN : N ≤ n) (hA : okC I) {C : Nat → Int} (hC : bnd C N) {r : Nat} (hr : r < 49) {u5 u6 u7 : am_V} : ∃ (ch : Int) (v5 v6 v7 : am_V), Ru sc (d + 4) mX7_settle 5 [Vr (some 53), Vr (some q), Vi t, Vi 1, Vi (r : Int), u5, u6, u7] [] (hI h (sr I q C)) = Ru sc (d + 4) mX7_settle 5 [Vr (some 53), Vr (some q), Vi t, Vi ch, Vi ((r + 1 : Nat) : Int), v5, v6, v7] [] (hI h (sr I q (rd pl e1 e2 (adC I) C))) ∧ bnd (rd pl e1 e2 (adC I) C) N ∧ (ch = 0 ∨ ch = 1) ∧ (ch = 0 → rd pl e1 e2 (adC I) C = C) := by
  have h0 := fo_run (F := fun (b : Nat) (z : (Nat → Int) × Int × am_V × am_V) => Ru sc (d + 4) mX7_settle 15 [Vr (some 53), Vr (some q), Vi t, Vi z.2.1, Vi (r : Int), Vi (b : Int), z.2.2.1, z.2.2.2] [] (hI h (sr I q z.1))) (f := fS e1 e2 I) (N := 60) (s0 := (C, 0, u6, u7)) (P := fun b z => bnd z.1 N ∧ z.1 = fo (rx pl e1 e2 (adC I)) b C ∧ (z.2.1 = 0 ∨ z.2.1 = 1) ∧ (z.2.1 = 0 → z.1 = C)) ⟨hC, rfl, Or.inl rfl, fun _ => rfl⟩ (fun b z hb hz => ⟨st_step s hq h54 hE hN hA hb hz.1, by
    obtain ⟨C1, ch, w6, w7⟩ := z
    obtain ⟨z1, z2, z3, z4⟩ := hz
    try dsimp only at z1 z2 z3 z4
    have hlt := hE.lt b hb
    have c1 := z1 _ hlt.1
    have c2 := z1 _ hlt.2
    have hAb := hA b hb
    unfold fS
    by_cases hne : I 54 b = -1
    · rw [if_pos hne]
      have ea : adC I b = 1000000 := if_pos hne
      have e : rx pl e1 e2 (adC I) b C1 = C1 := by
        unfold rx pl
        rw [ea, if_neg (by omega), if_neg (by omega)]
      refine ⟨z1, ?_, z3, z4⟩
      show C1 = rx pl e1 e2 (adC I) b (fo (rx pl e1 e2 (adC I)) b C)
      rw [← z2, e]
    · rw [if_neg hne]
      have ea : adC I b = I 54 b := if_neg hne
      refine ⟨bnd_rx hlt.1 hlt.2 (by omega) z1, ?_, ?_, ?_⟩
      · show rx pl e1 e2 (adC I) b C1 = rx pl e1 e2 (adC I) b (fo (rx pl e1 e2 (adC I)) b C)
        rw [← z2]
      · dsimp only
        split
        · exact Or.inr rfl
        · split
          · exact Or.inr rfl
          · exact z3
      · dsimp only
        intro hc
        split at hc
        · cases hc
        · rename_i g1
          split at hc
          · cases hc
          · rename_i g2
            unfold rx
            rw [if_neg g1, if_neg g2]
            exact z4 hc⟩)
  obtain ⟨h1, h2, h3, h4, h5⟩ := h0
  generalize fo (fS e1 e2 I) 60 (C, 0, u6, u7) = Z at h1 h2 h3 h4 h5
  obtain ⟨Cz, ch, w6, w7⟩ := Z
  try dsimp only at h1 h2 h3 h4 h5
  have h3 : Cz = rd pl e1 e2 (adC I) C := by unfold rd; exact h3
  rw [h3] at h1 h2 h5
  refine ⟨ch, Vi ((60 : Nat) : Int), w6, w7, ?_, h2, h4, h5⟩
  rw [q_X7_settle_5, if_pos (by omega), if_neg (by decide)]
  refine Eq.trans h1 ?_
  rw [q_X7_settle_15, if_neg (by omega), w32_succ (by omega)]
theorem c_settle (s : Sh h) (hq : hT h q = (1, n)) (h54 : q ≠ 54) {t : Int} {e1 e2 : Nat → Nat} {N : Nat} (hE : isE t e1 e2 N) (hN : N ≤ n) (hA : okC I) (hC : bnd (I q) N) : Cl sc (d + 4) mX7_settle [Vr (some 53), Vr (some q), Vi t] (hI h I) = some (.inl (Vx 0), hI h (sr I q (it pl e1 e2 (adC I) 48 (I q)))) := by
  have ha : ∀ b, b < 60 → 0 ≤ adC I b := fun b hb => by
    unfold adC
    have := hA b hb
    split <;> omega
  have hst := it_done (e1 := e1) (e2 := e2) (ad := adC I) (C := I q) hE.pos.1 hE.lt ha (fun u hu => (hC u hu).1)
  have hall : ∀ (m k : Nat), m + k = 49 → ∀ (ch : Int) (u5 u6 u7 : am_V), bnd (it pl e1 e2 (adC I) k (I q)) N → (ch = 0 ∨ ch = 1) → (ch = 0 → stb pl e1 e2 (adC I) (it pl e1 e2 (adC I) k (I q))) → Ru sc (d + 4) mX7_settle 5 [Vr (some 53), Vr (some q), Vi t, Vi ch, Vi (k : Int), u5, u6, u7] [] (hI h (sr I q (it pl e1 e2 (adC I) k (I q)))) = some (.inl (Vx 0), hI h (sr I q (it pl e1 e2 (adC I) 48 (I q)))) := by
    intro m
    induction m with
    | zero =>
      intro k hk ch u5 u6 u7 hb hc hs
      have e : k = 48 + 1 := by omega
      subst e
      rw [q_X7_settle_5, if_neg (by omega)]
      rw [show it pl e1 e2 (adC I) (48 + 1) (I q) = it pl e1 e2 (adC I) 48 (I q) from rd_stb (hst 48 (by have := hE.pos; omega))]
    | succ m ih =>
      intro k hk ch u5 u6 u7 hb hc hs
      rcases hc with rfl | rfl
      · rw [q_X7_settle_5, if_pos (by omega), if_pos rfl]
        have h1 := hs rfl
        have h2 := it_add (op := pl) (e1 := e1) (e2 := e2) (ad := adC I) (C := I q) (48 - k) k
        rw [it_stb h1, show k + (48 - k) = 48 by omega] at h2
        rw [← h2]
      · obtain ⟨ch, v5, v6, v7, g1, g2, g3, g4⟩ := st_round (sc := sc) (d := d) s hq h54 hE hN hA hb (r := k) (by omega) (u5 := u5) (u6 := u6) (u7 := u7)
        rw [g1]
        refine ih (k + 1) (by omega) ch v5 v6 v7 g2 g3 (fun hc => ?_)
        have h1 := g4 hc
        show stb pl e1 e2 (adC I) (rd pl e1 e2 (adC I) (it pl e1 e2 (adC I) k (I q)))
        rw [h1]
        exact stb_of mon_pl ha h1
  rw [q_X7_settle_0]
  have := hall 49 0 rfl 1 (Vx 0) (Vx 0) (Vx 0) hC (Or.inr rfl) (fun h => by cases h)
  rw [show it pl e1 e2 (adC I) 0 (I q) = I q from rfl, sr_self] at this
  exact this
/-- from one node -/
def from0 (c : Nat) (C : Nat → Int) (n : Nat) : Nat → Int := fun u => if u = c then 0 else if u < n then 1000000 else C u
theorem c_spread (s : Sh h) (hq : hT h q = (1, n)) (hn : n ≤ 100000) (h54 : q ≠ 54) {t : Int} {e1 e2 : Nat → Nat} {N : Nat} (hE : isE t e1 e2 N) (hN : N ≤ n) (hA : okC I) {c : Nat} (hc : c < n) : Cl sc (d + 5) mX7_spread [Vr (some 53), Vr (some q), Vi (c : Int), Vi t] (hI h I) = some (.inl (Vx 0), hI h (sr I q (it pl e1 e2 (adC I) 48 (from0 c (I q) n)))) := by
  rw [q_X7_spread_0, c_fill hq hn, e_clV, e_stA hq (by omega) (by omega), Int.toNat_natCast, u2_sr]
  simp only [BW s]
  have e54 : ∀ C, sr I q C 54 = I 54 := fun C => sr_ne (fun e => h54 e.symm)
  have eu : up (fun u => if u < n then (1000000 : Int) else I q u) c 0 = from0 c (I q) n := rfl
  rw [eu]
  have hb : bnd (sr I q (from0 c (I q) n) q) N := fun u hu => by
    rw [sr_q]
    unfold from0
    split
    · omega
    · rw [if_pos (by omega)]; omega
  have hA1 : okC (sr I q (from0 c (I q) n)) := fun b hb => by rw [e54]; exact hA b hb
  have ea : adC (sr I q (from0 c (I q) n)) = adC I := by
    funext b
    unfold adC
    rw [e54]
  rw [c_settle s hq h54 hE hN hA1 hb, e_clV, sr_q, sr_sr, ea]
end
