/-! THE CLASS'S PIECES -/
def edC (e1 : Nat → Nat) (E : Nat → Bool) (lb : Nat → Nat) (r n : Nat) : Int := nn (fun b => E b && decide (lb (e1 b) = r)) n
def eaC (e1 e2 : Nat → Nat) (E : Nat → Bool) (u n : Nat) : Int := nn (fun b => E b && decide (e1 b = u)) n + nn (fun b => E b && decide (e2 b = u)) n
theorem nn_s {p : Nat → Bool} {n : Nat} : nn p (n + 1) = nn p n + (if p n = true then 1 else 0) := rfl
def PcI (e1 e2 : Nat → Nat) (E : Nat → Bool) (N n : Nat) (lb : Nat → Nat) (I : am_I) : Prop := PI e1 e2 E N n lb ∧ (∀ u, u < N → I 49 u = lb u) ∧ (∀ r, r < N → lb r = r → I 50 r = nn (fun u => decide (lb u = r)) N ∧ I 51 r = edC e1 E lb r n) ∧ (∀ u, u < N → I 52 u = eaC e1 e2 E u n) ∧ I 48 4 = N ∧ I 48 5 = nn (fun u => decide (lb u = u)) N
def Ps (I J : am_I) : Prop := ∀ p, ¬ (48 ≤ p ∧ p ≤ 52) → J p = I p
theorem Ps.rf (I : am_I) : Ps I I := fun _ _ => rfl
theorem Ps.tr {I J K : am_I} (h1 : Ps I J) (h2 : Ps J K) : Ps I K := fun p hp => (h2 p hp).trans (h1 p hp)
theorem Ps.ks {I J : am_I} (h : Ps I J) : Ks I J := fun p hp => h p (by omega)
theorem Ps.sm {I J : am_I} (h : Ps I J) : Same I J := h.ks.sm
section
variable {sc : Nat × (Nat → Int)} {d n N : Nat} {h : am_H} {I : am_I} {e1 e2 : Nat → Nat} {E : Nat → Bool} {lb : Nat → Nat}
theorem PcI.no (P : PcI e1 e2 E N n lb I) (hE : E n = false) : PcI e1 e2 E N (n + 1) lb I := by
  obtain ⟨p0, p1, p2, p3, p4, p5⟩ := P
  refine ⟨p0.no hE, p1, fun r hr hl => ⟨(p2 r hr hl).1, ?_⟩, fun u hu => ?_, p4, p5⟩
  · rw [(p2 r hr hl).2]
    unfold edC
    rw [nn_s, hE, Bool.false_and, if_neg (by decide), Int.add_zero]
  · rw [p3 u hu]
    unfold eaC
    rw [nn_s, nn_s, hE, Bool.false_and, Bool.false_and, if_neg (by decide), Int.add_zero, Int.add_zero]
theorem c_join (s : Sh h) (P : PcI e1 e2 E N n lb I) (hN : N ≤ 49) (hn : n < 60) (hE : E n = true) (he : ∀ b, b ≤ n → e1 b < N ∧ e2 b < N) (hxy : e1 n ≠ e2 n) : ∃ J, Ps I J ∧ PcI e1 e2 E N (n + 1) (jn lb (e1 n) (e2 n)) J ∧ Cl sc (d + 1) mX8_join [Vr (some 48), Vi (e1 n : Nat), Vi (e2 n : Nat)] (hI h I) = some (.inl (Vx 0), hI h J) := by
  obtain ⟨p0, p1, p2, p3, p4, p5⟩ := P
  have hx := (he n (Nat.le_refl n)).1
  have hy := (he n (Nat.le_refl n)).2
  have hs := p0.1 _ hx
  have hg := p0.1 _ hy
  have k1 := p1 _ hx
  have k2 := p1 _ hy
  have kP := p0.join hE he
  have ps := p2 _ hs.1 hs.2
  have pg := p2 _ hg.1 hg.2
  have q1 := p3 _ hx
  have q2 := p3 _ hy
  generalize hX : e1 n = x at *
  generalize hY : e2 n = y at *
  generalize hS : lb x = S at *
  generalize hG : lb y = G at *
  have b1 : 0 ≤ edC e1 E lb S n ∧ edC e1 E lb S n ≤ n := nn_b
  have b2 : 0 ≤ edC e1 E lb G n ∧ edC e1 E lb G n ≤ n := nn_b
  have b3 : 0 ≤ eaC e1 e2 E x n ∧ eaC e1 e2 E x n ≤ 2 * n := by
    have a1 := nn_b (p := fun b => E b && decide (e1 b = x)) (N := n)
    have a2 := nn_b (p := fun b => E b && decide (e2 b = x)) (N := n)
    unfold eaC
    omega
  have b4 : 0 ≤ eaC e1 e2 E y n ∧ eaC e1 e2 E y n ≤ 2 * n := by
    have a1 := nn_b (p := fun b => E b && decide (e1 b = y)) (N := n)
    have a2 := nn_b (p := fun b => E b && decide (e2 b = y)) (N := n)
    unfold eaC
    omega
  have hxb : (x : Int) < 49 := by omega
  have hyb : (y : Int) < 49 := by omega
  have hSb : (S : Int) < 49 := by omega
  have hGb : (G : Int) < 49 := by omega
  have hjx : jn lb x y x = S := by
    unfold jn
    rw [hS, hG]
    split <;> rfl
  have hlx : ∀ u, jn lb x y u = if lb u = G then S else lb u := fun u => by
    unfold jn
    rw [hS, hG]
  have ea : ∀ u, eaC e1 e2 E u (n + 1) = eaC e1 e2 E u n + (if x = u then 1 else 0) + (if y = u then 1 else 0) := fun u => by
    unfold eaC
    rw [nn_s, nn_s, hE, hX, hY]
    simp only [Bool.true_and, decide_eq_true_eq]
    omega
  have c1 : w32 (edC e1 E lb S n + 1) = edC e1 E lb S n + 1 := w32_id (by omega) (by omega)
  have c2 : w32 (eaC e1 e2 E x n + 1) = eaC e1 e2 E x n + 1 := w32_id (by omega) (by omega)
  have c3 : w32 (eaC e1 e2 E y n + 1) = eaC e1 e2 E y n + 1 := w32_id (by omega) (by omega)
  have q3 : am_u2 (am_u2 I 51 S (edC e1 E lb S n + 1)) 52 x (eaC e1 e2 E x n + 1) 52 y = eaC e1 e2 E y n := by
    rw [u2_j (fun e => hxy e.symm), u2_a (by decide)]
    exact q2
  have q4 : am_u2 I 51 S (edC e1 E lb S n + 1) 52 x = eaC e1 e2 E x n := (u2_a (by decide)).trans q1
  have hI1 : Ps I (am_u2 (am_u2 (am_u2 I 51 S (edC e1 E lb S n + 1)) 52 x (eaC e1 e2 E x n + 1)) 52 y (eaC e1 e2 E y n + 1)) := fun p hp => by
    rw [u2_o (by omega), u2_o (by omega), u2_o (by omega)]
  have q5 : ∀ u, u < N → am_u2 (am_u2 (am_u2 I 51 S (edC e1 E lb S n + 1)) 52 x (eaC e1 e2 E x n + 1)) 52 y (eaC e1 e2 E y n + 1) 52 u = eaC e1 e2 E u (n + 1) := fun u hu => by
    rw [ea u]
    by_cases g1 : y = u
    · subst g1
      rw [u2_same, if_pos rfl, if_neg hxy]
      omega
    · rw [u2_j (fun e => g1 e.symm), if_neg g1]
      by_cases g2 : x = u
      · subst g2
        rw [u2_same, if_pos rfl]
        omega
      · rw [u2_j (fun e => g2 e.symm), if_neg g2, u2_a (by decide), p3 u hu]
        omega
  rw [q_X8_join_0]
  by_cases hSG : S = G
  · have ej : jn lb x y = lb := jn_same (by rw [hS, hG]; exact hSG)
    subst hSG
    refine ⟨_, hI1, ?_, ?_⟩
    · rw [ej] at kP ⊢
      refine ⟨kP, fun u hu => ?_, fun r hr hl => ⟨?_, ?_⟩, q5, ?_, ?_⟩
      · rw [u2_a (by decide), u2_a (by decide), u2_a (by decide)]
        exact p1 u hu
      · rw [u2_a (by decide), u2_a (by decide), u2_a (by decide)]
        exact (p2 r hr hl).1
      · rw [u2_a (by decide), u2_a (by decide)]
        have e : edC e1 E lb r (n + 1) = edC e1 E lb r n + (if S = r then 1 else 0) := by
          unfold edC
          rw [nn_s, hE, hX, hS]
          simp only [Bool.true_and, decide_eq_true_eq]
        rw [e]
        by_cases g : S = r
        · subst g
          rw [u2_same, if_pos rfl]
        · rw [u2_j (fun e => g e.symm), if_neg g, (p2 r hr hl).2, Int.add_zero]
      · rw [u2_a (by decide), u2_a (by decide), u2_a (by decide)]
        exact p4
      · rw [u2_a (by decide), u2_a (by decide), u2_a (by decide)]
        exact p5
    · simp (disch := first | assumption | exact Int.natCast_nonneg _ | decide) only [↓BP s, k1, k2, ps.2, q3, q4, c1, c2, c3, e_clI, e_clV, e_clP, e_clIx, e_clVx, e_clPx, e_xt, Int.toNat_natCast, Int.reduceToNat, bz0, bz1, Nat.add_zero, decide_eq_false_iff_not, decide_eq_true_eq, Int.reduceEq, Nat.reduceEqDiff, Int.reduceLT, Int.reduceLE, not_true_eq_false, not_false_eq_true, eq_self, ↓reduceIte]
  · have hSG2 : ¬ (S : Int) = (G : Int) := by omega
    generalize hJ1 : am_u2 (am_u2 (am_u2 I 51 S (edC e1 E lb S n + 1)) 52 x (eaC e1 e2 E x n + 1)) 52 y (eaC e1 e2 E y n + 1) = I1 at hI1 q5
    have f49 : I1 49 = I 49 := by rw [← hJ1, u2_o (by decide), u2_o (by decide), u2_o (by decide)]
    have f50 : I1 50 = I 50 := by rw [← hJ1, u2_o (by decide), u2_o (by decide), u2_o (by decide)]
    have f48 : I1 48 = I 48 := by rw [← hJ1, u2_o (by decide), u2_o (by decide), u2_o (by decide)]
    have f51 : ∀ r, I1 51 r = if r = S then edC e1 E lb S n + 1 else I 51 r := fun r => by
      rw [← hJ1, u2_a (by decide), u2_a (by decide)]
      unfold am_u2
      by_cases g : r = S
      · rw [if_pos ⟨rfl, g⟩, if_pos g]
      · rw [if_neg (fun z => g z.2), if_neg g]
    have f84 : I1 48 4 = (N : Int) := by rw [f48]; exact p4
    have f85 : I1 48 5 = nn (fun u => decide (lb u = u)) N := by rw [f48]; exact p5
    have hgo : ∀ i, i ≤ N → Ru sc (d + 1) mX8_join 41 [Vr (some 48), Vi (x : Int), Vi (y : Int), Vi (S : Int), Vi (G : Int), Vi 0] [] (hI h I1) = Ru sc (d + 1) mX8_join 41 [Vr (some 48), Vi (x : Int), Vi (y : Int), Vi (S : Int), Vi (G : Int), Vi (i : Int)] [] (hI h (sr I1 49 (fun u => if u < i ∧ I 49 u = G then (S : Int) else I 49 u))) := by
      clear c1 c2 c3
      intro i
      induction i with
      | zero =>
        intro _
        have e : sr I1 49 (fun u => if u < 0 ∧ I 49 u = G then (S : Int) else I 49 u) = I1 := by
          have e2 : (fun u => if u < 0 ∧ I 49 u = G then (S : Int) else I 49 u) = I1 49 := by
            funext u
            rw [if_neg (fun z => Nat.not_lt_zero u z.1), f49]
          rw [e2, sr_self]
        rw [e]
        rfl
      | succ i ih =>
        intro hi
        have hlt : (i : Int) < (N : Int) := by omega
        have hi49 : (i : Int) < 49 := by omega
        have hi9 : i < 2147483647 := by omega
        have e48 : ∀ C, sr I1 49 C 48 4 = (N : Int) := fun C => by rw [sr_ne (by decide)]; exact f84
        rw [ih (by omega), q_X8_join_41]
        have ei : (if i < i ∧ I 49 i = (G : Int) then (S : Int) else I 49 i) = I 49 i := if_neg (fun z => Nat.lt_irrefl i z.1)
        by_cases g : I 49 i = G
        · simp (disch := first | assumption | exact Int.natCast_nonneg _ | decide) only [↓BP s, e48, hlt, sr_q, Nat.lt_irrefl, false_and, g, u2_sr, w32_succ hi9, e_clI, e_clV, e_clP, e_clIx, e_clVx, e_clPx, e_xt, Int.toNat_natCast, Int.reduceToNat, bz0, bz1, Nat.add_zero, decide_eq_false_iff_not, decide_eq_true_eq, Int.reduceEq, Nat.reduceEqDiff, Int.reduceLT, Int.reduceLE, not_true_eq_false, not_false_eq_true, eq_self, ↓reduceIte]
          have er : up (fun u => if u < i ∧ I 49 u = (G : Int) then (S : Int) else I 49 u) i (S : Int) = (fun u => if u < i + 1 ∧ I 49 u = (G : Int) then (S : Int) else I 49 u) := by
            funext u
            unfold up
            by_cases hu : u = i
            · rw [if_pos hu, hu, if_pos ⟨Nat.lt_succ_self i, g⟩]
            · rw [if_neg hu]
              by_cases hu2 : u < i
              · simp only [hu2, show u < i + 1 by omega]
              · simp only [hu2, show ¬ u < i + 1 by omega]
          rw [er]
        · simp (disch := first | assumption | exact Int.natCast_nonneg _ | decide) only [↓BP s, e48, hlt, sr_q, Nat.lt_irrefl, false_and, g, w32_succ hi9, e_clI, e_clV, e_clP, e_clIx, e_clVx, e_clPx, e_xt, Int.toNat_natCast, Int.reduceToNat, bz0, bz1, Nat.add_zero, decide_eq_false_iff_not, decide_eq_true_eq, Int.reduceEq, Nat.reduceEqDiff, Int.reduceLT, Int.reduceLE, not_true_eq_false, not_false_eq_true, eq_self, ↓reduceIte]
          have er : (fun u => if u < i ∧ I 49 u = (G : Int) then (S : Int) else I 49 u) = (fun u => if u < i + 1 ∧ I 49 u = (G : Int) then (S : Int) else I 49 u) := by
            funext u
            by_cases hu : u = i
            · rw [hu, if_neg (fun z => g z.2), if_neg (fun z => g z.2)]
            · by_cases hu2 : u < i
              · simp only [hu2, show u < i + 1 by omega]
              · simp only [hu2, show ¬ u < i + 1 by omega]
          rw [er]
    have a1 := nn_b (p := fun u => decide (lb u = S)) (N := N)
    have a2 := nn_b (p := fun u => decide (lb u = G)) (N := N)
    have a3 := nn_b (p := fun u => decide (lb u = u)) (N := N)
    have hlt : ¬ (N : Int) < (N : Int) := by omega
    generalize hR : (fun u => if u < N ∧ I 49 u = (G : Int) then (S : Int) else I 49 u) = R49
    have hgN := hgo N (Nat.le_refl N)
    rw [hR] at hgN
    have g50S : sr I1 49 R49 50 S = nn (fun u => decide (lb u = S)) N := by rw [sr_ne (by decide), f50]; exact ps.1
    have g50G : sr I1 49 R49 50 G = nn (fun u => decide (lb u = G)) N := by rw [sr_ne (by decide), f50]; exact pg.1
    have g51S : sr I1 49 R49 51 S = edC e1 E lb S n + 1 := by rw [sr_ne (by decide), f51, if_pos rfl]
    have g51G : sr I1 49 R49 51 G = edC e1 E lb G n := by rw [sr_ne (by decide), f51, if_neg (fun e => hSG e.symm)]; exact pg.2
    have g84 : sr I1 49 R49 48 4 = (N : Int) := by rw [sr_ne (by decide)]; exact f84
    have g85 : sr I1 49 R49 48 5 = nn (fun u => decide (lb u = u)) N := by rw [sr_ne (by decide)]; exact f85
    refine ⟨am_u2 (am_u2 (am_u2 (sr I1 49 R49) 50 S (nn (fun u => decide (lb u = S)) N + nn (fun u => decide (lb u = G)) N)) 51 S (edC e1 E lb S n + 1 + edC e1 E lb G n)) 48 5 (nn (fun u => decide (lb u = u)) N - 1), fun p hp => ?_, ?_, ?_⟩
    · rw [u2_o (by omega), u2_o (by omega), u2_o (by omega), sr_ne (by omega)]
      exact hI1 p hp
    · clear c1 c2 c3
      have rG : jn lb x y G = S := by rw [hlx, hg.2, if_pos rfl]
      refine ⟨kP, fun u hu => ?_, fun r hr hl => ?_, fun u hu => ?_, ?_, ?_⟩
      · rw [u2_a (by decide), u2_a (by decide), u2_a (by decide), sr_q, ← hR, hlx u]
        have := p1 u hu
        show (if u < N ∧ I 49 u = (G : Int) then (S : Int) else I 49 u) = _
        by_cases g : lb u = G
        · rw [if_pos g, if_pos ⟨hu, by rw [this, g]⟩]
        · rw [if_neg g, if_neg (fun z => g (by have := z.2; omega))]
          exact this
      · have hrG : r ≠ G := fun e => by rw [e, rG] at hl; exact hSG hl
        have hrl : lb r = r := by
          rw [hlx] at hl
          by_cases g : lb r = G
          · rw [if_pos g] at hl
            rw [← hl]
            exact hs.2
          · rw [if_neg g] at hl
            exact hl
        have j50 : am_u2 (am_u2 (am_u2 (sr I1 49 R49) 50 S (nn (fun u => decide (lb u = S)) N + nn (fun u => decide (lb u = G)) N)) 51 S (edC e1 E lb S n + 1 + edC e1 E lb G n)) 48 5 (nn (fun u => decide (lb u = u)) N - 1) 50 r = if r = S then nn (fun u => decide (lb u = S)) N + nn (fun u => decide (lb u = G)) N else I 50 r := by
          rw [u2_a (by decide), u2_a (by decide)]
          by_cases g : r = S
          · rw [g, u2_same, if_pos rfl]
          · rw [u2_j g, if_neg g, sr_ne (by decide), f50]
        have j51 : am_u2 (am_u2 (am_u2 (sr I1 49 R49) 50 S (nn (fun u => decide (lb u = S)) N + nn (fun u => decide (lb u = G)) N)) 51 S (edC e1 E lb S n + 1 + edC e1 E lb G n)) 48 5 (nn (fun u => decide (lb u = u)) N - 1) 51 r = if r = S then edC e1 E lb S n + 1 + edC e1 E lb G n else I 51 r := by
          rw [u2_a (by decide)]
          by_cases g : r = S
          · rw [g, u2_same, if_pos rfl]
          · rw [u2_j g, if_neg g, u2_a (by decide), sr_ne (by decide), f51, if_neg g]
        rw [j50, j51]
        have eed : edC e1 E (jn lb x y) r (n + 1) = (if r = S then edC e1 E lb S n + edC e1 E lb G n else edC e1 E lb r n) + (if S = r then 1 else 0) := by
          unfold edC
          rw [nn_s, hE, hX, hjx]
          simp only [Bool.true_and, decide_eq_true_eq]
          congr 1
          by_cases g : r = S
          · rw [if_pos g]
            refine nn_add (fun b hb => ?_)
            rw [hlx, g]
            cases E b
            · simp
            · by_cases g1 : lb (e1 b) = G
              · have : ¬ G = S := fun e => hSG e.symm
                simp [g1, this]
              · simp [g1]
                exact Classical.em _
          · rw [if_neg g]
            refine nn_cg (fun b hb => ?_)
            rw [hlx]
            by_cases g1 : lb (e1 b) = G
            · rw [if_pos g1, g1, decide_eq_false (fun e => g e.symm), decide_eq_false (fun e => hrG e.symm)]
            · rw [if_neg g1]
        have enn : nn (fun u => decide (jn lb x y u = r)) N = if r = S then nn (fun u => decide (lb u = S)) N + nn (fun u => decide (lb u = G)) N else nn (fun u => decide (lb u = r)) N := by
          by_cases g : r = S
          · rw [if_pos g]
            refine nn_add (fun u hu => ?_)
            rw [hlx, g]
            by_cases g1 : lb u = G
            · have : ¬ G = S := fun e => hSG e.symm
              simp [g1, this]
            · simp [g1]
              exact Classical.em _
          · rw [if_neg g]
            refine nn_cg (fun u hu => ?_)
            rw [hlx]
            by_cases g1 : lb u = G
            · rw [if_pos g1, g1, decide_eq_false (fun e => g e.symm), decide_eq_false (fun e => hrG e.symm)]
            · rw [if_neg g1]
        rw [eed, enn]
        by_cases g : r = S
        · rw [if_pos g, if_pos g, if_pos g, if_pos g, if_pos g.symm]
          exact ⟨rfl, by omega⟩
        · rw [if_neg g, if_neg g, if_neg g, if_neg g, if_neg (fun e => g e.symm), (p2 r hr hrl).1, (p2 r hr hrl).2, Int.add_zero]
          exact ⟨rfl, rfl⟩
      · rw [u2_a (by decide), u2_a (by decide), u2_a (by decide), sr_ne (by decide)]
        exact q5 u hu
      · rw [u2_j (by decide), u2_a (by decide), u2_a (by decide)]
        exact g84
      · rw [u2_same]
        have := nn_add (p := fun u => decide (jn lb x y u = u)) (q := fun u => decide (u = G)) (r := fun u => decide (lb u = u)) (N := N) (fun u hu => by
          rw [hlx]
          by_cases g1 : u = G
          · subst g1
            rw [hg.2, if_pos rfl]
            exact Or.inr (Or.inl ⟨decide_eq_false hSG, decide_eq_true rfl, decide_eq_true rfl⟩)
          · by_cases g2 : lb u = G
            · rw [if_pos g2, g2]
              have h1 : ¬ S = u := fun e => by
                rw [← e, hs.2] at g2
                exact hSG g2
              exact Or.inr (Or.inr ⟨decide_eq_false h1, decide_eq_false g1, decide_eq_false (fun e => g1 e.symm)⟩)
            · rw [if_neg g2]
              by_cases g3 : lb u = u
              · exact Or.inl ⟨decide_eq_true g3, decide_eq_false g1, decide_eq_true g3⟩
              · exact Or.inr (Or.inr ⟨decide_eq_false g3, decide_eq_false g1, decide_eq_false g3⟩))
        have h1 := nn_one (p := fun u => decide (u = G)) (x := G) (N := N) hg.1 (decide_eq_true rfl) (fun u hu hp => of_decide_eq_true hp)
        omega
    · have d1 : w32 (nn (fun u => decide (lb u = S)) N + nn (fun u => decide (lb u = G)) N) = nn (fun u => decide (lb u = S)) N + nn (fun u => decide (lb u = G)) N := w32_id (by clear c1 c2 c3; omega) (by clear c1 c2 c3; omega)
      have d2 : w32 (edC e1 E lb S n + 1 + edC e1 E lb G n) = edC e1 E lb S n + 1 + edC e1 E lb G n := w32_id (by clear c1 c2 c3 d1; omega) (by clear c1 c2 c3 d1; omega)
      have d3 : w32 (nn (fun u => decide (lb u = u)) N - 1) = nn (fun u => decide (lb u = u)) N - 1 := w32_id (by clear c1 c2 c3 d1 d2; omega) (by clear c1 c2 c3 d1 d2; omega)
      simp (disch := first | assumption | exact Int.natCast_nonneg _ | decide) only [↓BP s, k1, k2, ps.2, q3, q4, c1, c2, c3, hSG2, hJ1, e_clI, e_clV, e_clP, e_clIx, e_clVx, e_clPx, e_xt, Int.toNat_natCast, Int.reduceToNat, bz0, bz1, Nat.add_zero, decide_eq_false_iff_not, decide_eq_true_eq, Int.reduceEq, Nat.reduceEqDiff, Int.reduceLT, Int.reduceLE, not_true_eq_false, not_false_eq_true, eq_self, ↓reduceIte]
      rw [hgN, q_X8_join_41]
      simp (disch := first | assumption | exact Int.natCast_nonneg _ | decide) only [↓BP s, g84, hlt, g50S, g50G, d1, u2_p, u2_jj, g51S, g51G, d2, g85, d3, e_clI, e_clV, e_clP, e_clIx, e_clVx, e_clPx, e_xt, Int.toNat_natCast, Int.reduceToNat, bz0, bz1, Nat.add_zero, decide_eq_false_iff_not, decide_eq_true_eq, Int.reduceEq, Nat.reduceEqDiff, Int.reduceLT, Int.reduceLE, not_true_eq_false, not_false_eq_true, eq_self, ↓reduceIte]
end
