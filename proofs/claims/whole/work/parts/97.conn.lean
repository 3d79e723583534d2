/-! PIECES: what is connected by the first n borders that count -/
def conn (e1 e2 : Nat → Nat) (E : Nat → Bool) (n u v : Nat) : Prop := ∀ P : Nat → Prop, P u → (∀ b, b < n → E b = true → (P (e1 b) ↔ P (e2 b))) → P v
section
variable {e1 e2 : Nat → Nat} {E E' : Nat → Bool} {n N u v x : Nat}
theorem conn.rf : conn e1 e2 E n u u := fun _ h _ => h
theorem conn.tr (h1 : conn e1 e2 E n u v) (h2 : conn e1 e2 E n v x) : conn e1 e2 E n u x := fun P p q => h2 P (h1 P p q) q
theorem conn.sy (h : conn e1 e2 E n u v) : conn e1 e2 E n v u := fun P p q => by
  have := h (fun x => conn e1 e2 E n x u) conn.rf (fun b hb he => ⟨fun c Q q1 q2 => c Q ((q2 b hb he).mpr q1) q2, fun c Q q1 q2 => c Q ((q2 b hb he).mp q1) q2⟩)
  exact this P p q
theorem conn.ed {b : Nat} (hb : b < n) (he : E b = true) : conn e1 e2 E n (e1 b) (e2 b) := fun _ p q => (q b hb he).mp p
theorem conn.mono {n' : Nat} (hn : n ≤ n') (h : conn e1 e2 E n u v) : conn e1 e2 E n' u v := fun P p q => h P p (fun b hb => q b (by omega))
theorem conn.cg (h : ∀ b, b < n → E b = true → E' b = true) (c : conn e1 e2 E n u v) : conn e1 e2 E' n u v := fun P p q => c P p (fun b hb he => q b hb (h b hb he))
/-- two labels made one -/
def jn (lb : Nat → Nat) (x y : Nat) : Nat → Nat := fun i => if lb i = lb y then lb x else lb i
def PI (e1 e2 : Nat → Nat) (E : Nat → Bool) (N n : Nat) (lb : Nat → Nat) : Prop := (∀ u, u < N → lb u < N ∧ lb (lb u) = lb u) ∧ ∀ u v, u < N → v < N → (lb u = lb v ↔ conn e1 e2 E n u v)
theorem PI.st : PI e1 e2 E N 0 (fun u => u) := ⟨fun u hu => ⟨hu, rfl⟩, fun u v _ _ => ⟨fun h => by dsimp only at h; rw [h]; exact conn.rf, fun h => h (fun z => u = z) rfl (fun b hb => absurd hb (Nat.not_lt_zero b))⟩⟩
theorem jn_same {lb : Nat → Nat} {x y : Nat} (h : lb x = lb y) : jn lb x y = lb := by
  funext i
  unfold jn
  split
  · rename_i h1; rw [h1, h]
  · rfl
theorem PI.no {lb : Nat → Nat} (p : PI e1 e2 E N n lb) (h : E n = false) : PI e1 e2 E N (n + 1) lb := by
  refine ⟨p.1, fun u v hu hv => (p.2 u v hu hv).trans ⟨conn.mono (Nat.le_succ n), fun c P q1 q2 => c P q1 (fun b hb he => ?_)⟩⟩
  by_cases e : b = n
  · subst e
    rw [h] at he
    cases he
  · exact q2 b (by omega) he
theorem PI.join {lb : Nat → Nat} (p : PI e1 e2 E N n lb) (h : E n = true) (he : ∀ b, b ≤ n → e1 b < N ∧ e2 b < N) : PI e1 e2 E N (n + 1) (jn lb (e1 n) (e2 n)) := by
  have hen := he n (Nat.le_refl n)
  have p1 := p.1 _ hen.1
  have p2 := p.1 _ hen.2
  refine ⟨fun u hu => ?_, fun u v hu hv => ⟨fun g => ?_, fun c => ?_⟩⟩
  · have pu := p.1 u hu
    unfold jn
    by_cases h1 : lb u = lb (e2 n)
    · rw [if_pos h1]
      refine ⟨p1.1, ?_⟩
      rw [p1.2]
      split <;> rfl
    · rw [if_neg h1]
      refine ⟨pu.1, ?_⟩
      rw [pu.2, if_neg h1]
  · have cm : ∀ {a b : Nat}, a < N → b < N → lb a = lb b → conn e1 e2 E (n + 1) a b := fun ha hb e => ((p.2 _ _ ha hb).mp e).mono (Nat.le_succ n)
    have ce : conn e1 e2 E (n + 1) (e1 n) (e2 n) := conn.ed (Nat.lt_succ_self n) h
    unfold jn at g
    by_cases h1 : lb u = lb (e2 n)
    · rw [if_pos h1] at g
      by_cases h2 : lb v = lb (e2 n)
      · exact cm hu hv (h1.trans h2.symm)
      · rw [if_neg h2] at g
        exact (cm hu hen.2 h1).tr (ce.sy.tr (cm hen.1 hv g))
    · rw [if_neg h1] at g
      by_cases h2 : lb v = lb (e2 n)
      · rw [if_pos h2] at g
        exact (cm hu hen.1 g).tr (ce.tr (cm hen.2 hv h2.symm))
      · rw [if_neg h2] at g
        exact cm hu hv g
  · refine (c (fun z => jn lb (e1 n) (e2 n) u = jn lb (e1 n) (e2 n) z) rfl (fun b hb hEb => ?_))
    have e : jn lb (e1 n) (e2 n) (e1 b) = jn lb (e1 n) (e2 n) (e2 b) := by
      by_cases e : b = n
      · subst e
        unfold jn
        rw [if_pos (show lb (e2 b) = lb (e2 b) from rfl)]
        split <;> rfl
      · have hbb := he b (by omega)
        have := (p.2 _ _ hbb.1 hbb.2).mpr (conn.ed (by omega) hEb)
        unfold jn
        rw [this]
    try dsimp only
    rw [e]
/-- sums of ones -/
def nn (p : Nat → Bool) (N : Nat) : Int := sm (fun u => if p u = true then 1 else 0) N
theorem nn_b {p : Nat → Bool} : ∀ {N : Nat}, 0 ≤ nn p N ∧ nn p N ≤ N := by
  intro N
  have h := sm_le (f := fun u => if p u = true then 1 else 0) (A := 0) (B := 1) (N := N) (fun i hi => by split <;> omega)
  unfold nn
  omega
theorem nn_cg {p q : Nat → Bool} {N : Nat} (h : ∀ u, u < N → p u = q u) : nn p N = nn q N := sm_congr (fun i hi => by rw [h i hi])
theorem nn_add {p q r : Nat → Bool} {N : Nat} (h : ∀ u, u < N → (p u = true ∧ q u = false ∧ r u = true) ∨ (p u = false ∧ q u = true ∧ r u = true) ∨ (p u = false ∧ q u = false ∧ r u = false)) : nn r N = nn p N + nn q N := by
  unfold nn
  rw [← sm_add]
  refine sm_congr (fun i hi => ?_)
  rcases h i hi with ⟨a, b, c⟩ | ⟨a, b, c⟩ | ⟨a, b, c⟩ <;> rw [a, b, c] <;> rfl
theorem nn_one {p : Nat → Bool} {x : Nat} : ∀ {N : Nat}, x < N → p x = true → (∀ u, u < N → p u = true → u = x) → nn p N = 1
  | N + 1, hx, hp, hu => by
    show sm _ N + (if p N = true then 1 else 0) = 1
    by_cases e : x = N
    · subst e
      rw [if_pos hp, sm_zero (fun i hi => if_neg (fun h => by have := hu i (by omega) h; omega))]
      rfl
    · have ih := nn_one (p := p) (x := x) (N := N) (by omega) hp (fun u h => hu u (by omega))
      unfold nn at ih
      rw [ih, if_neg (fun h => e (hu N (Nat.lt_succ_self N) h).symm)]
      rfl
theorem nn_zero {p : Nat → Bool} {N : Nat} (h : ∀ u, u < N → p u = false) : nn p N = 0 := sm_zero (fun i hi => by rw [h i hi]; rfl)
theorem sm_swap {f : Nat → Nat → Int} {N : Nat} : ∀ {M : Nat}, sm (fun a => sm (fun b => f a b) N) M = sm (fun b => sm (fun a => f a b) M) N
  | 0 => by
    show (0 : Int) = sm (fun b => 0) N
    rw [sm_zero (fun i hi => rfl)]
  | M + 1 => by
    show sm _ M + sm (fun b => f M b) N = sm (fun b => sm (fun a => f a b) M + f M b) N
    rw [sm_swap (M := M), sm_add]
/-- how many classes there are does not hang on how they are named -/
def fst (lb : Nat → Nat) (u : Nat) : Bool := decide (∀ v, v < u → lb v ≠ lb u)
theorem fst_ex (lb : Nat → Nat) : ∀ u, ∃ v, v ≤ u ∧ lb v = lb u ∧ fst lb v = true := by
  intro u
  induction u using Nat.strongRecOn with
  | ind u ih =>
    by_cases h : fst lb u = true
    · exact ⟨u, Nat.le_refl u, rfl, h⟩
    · unfold fst at h
      rw [decide_eq_true_eq] at h
      have h2 : ∃ v, v < u ∧ lb v = lb u := by
        by_cases h3 : ∃ v, v < u ∧ lb v = lb u
        · exact h3
        · exact absurd (fun v hv e => h3 ⟨v, hv, e⟩) h
      obtain ⟨v, hv, e⟩ := h2
      obtain ⟨x, hx, ex, fx⟩ := ih v hv
      exact ⟨x, by omega, ex.trans e, fx⟩
theorem fst_un {lb : Nat → Nat} {u v : Nat} (h : lb u = lb v) (h1 : fst lb u = true) (h2 : fst lb v = true) : u = v := by
  unfold fst at h1 h2
  rw [decide_eq_true_eq] at h1 h2
  rcases Nat.lt_trichotomy u v with g | g | g
  · exact absurd h (h2 u g)
  · exact g
  · exact absurd h.symm (h1 v g)
theorem reps {lb : Nat → Nat} (h : ∀ u, u < N → lb u < N ∧ lb (lb u) = lb u) : nn (fun u => decide (lb u = u)) N = nn (fst lb) N := by
  have e1 : nn (fun u => decide (lb u = u)) N = sm (fun u => sm (fun v => if lb u = u ∧ fst lb v = true ∧ lb v = u then (1 : Int) else 0) N) N := sm_congr (fun u hu => by
    by_cases g : lb u = u
    · obtain ⟨x, hx, ex, fx⟩ := fst_ex lb u
      have := nn_one (p := fun v => decide (lb u = u ∧ fst lb v = true ∧ lb v = u)) (x := x) (N := N) (by omega) (decide_eq_true ⟨g, fx, ex.trans g⟩) (fun v hv hp => by
        have hp := of_decide_eq_true hp
        exact fst_un (hp.2.2.trans (g.symm.trans ex.symm)) hp.2.1 fx)
      unfold nn at this
      simp only [decide_eq_true_eq] at this
      rw [this, if_pos (decide_eq_true g)]
    · rw [sm_zero (fun i hi => if_neg (fun z => g z.1)), if_neg (by rw [decide_eq_true_eq]; exact g)])
  have e2 : nn (fst lb) N = sm (fun v => sm (fun u => if lb u = u ∧ fst lb v = true ∧ lb v = u then (1 : Int) else 0) N) N := sm_congr (fun v hv => by
    by_cases g : fst lb v = true
    · have hl := h v hv
      have := nn_one (p := fun u => decide (lb u = u ∧ fst lb v = true ∧ lb v = u)) (x := lb v) (N := N) hl.1 (decide_eq_true ⟨hl.2, g, rfl⟩) (fun u hu hp => by
        have hp := of_decide_eq_true hp
        exact hp.2.2.symm)
      unfold nn at this
      simp only [decide_eq_true_eq] at this
      rw [this, if_pos g]
    · rw [sm_zero (fun i hi => if_neg (fun z => g z.2.1)), if_neg g])
  rw [e1, e2, sm_swap]
theorem reps2 {lb lb' : Nat → Nat} (h : ∀ u, u < N → lb u < N ∧ lb (lb u) = lb u) (h' : ∀ u, u < N → lb' u < N ∧ lb' (lb' u) = lb' u) (e : ∀ u v, u < N → v < N → (lb u = lb v ↔ lb' u = lb' v)) : nn (fun u => decide (lb u = u)) N = nn (fun u => decide (lb' u = u)) N := by
  rw [reps h, reps h']
  refine nn_cg (fun u hu => ?_)
  unfold fst
  rw [decide_eq_decide]
  constructor
  · exact fun g v hv x => g v hv ((e v u (by omega) hu).mpr x)
  · exact fun g v hv x => g v hv ((e v u (by omega) hu).mp x)
end
