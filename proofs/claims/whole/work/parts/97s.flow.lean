/-! FLOWS: one unit a border, one way or the other -/
def ic (b c : Nat) : Int := (if lc b = c then 1 else 0) - (if mc b = c then 1 else 0)
def outF (f : Nat → Int) (c : Nat) : Int := sm (fun b => ic b c * f b) 60
def FlW (O : Nat → Bool) (s e : Nat) (k : Int) (f : Nat → Int) : Prop := (∀ b, b < 60 → (-1 ≤ f b ∧ f b ≤ 1) ∧ (O b = false → f b = 0)) ∧ ∀ c, c < 36 → outF f c = (if c = s then k else 0) - (if c = e then k else 0)
def Rm (O : Nat → Bool) (f : Nat → Int) (b p : Nat) : Prop := O b = true ∧ (if lc b = p then f b ≠ 1 else f b ≠ -1)
def jo (b p u : Nat) : Prop := (lc b = p ∧ mc b = u) ∨ (lc b = u ∧ mc b = p)
theorem lcmc : ∀ b, b < 60 → lc b ≠ mc b := by decide +kernel
theorem sm_up {k g : Nat → Int} {b : Nat} {v : Int} : ∀ {n : Nat}, b < n → sm (fun i => k i * up g b v i) n = sm (fun i => k i * g i) n + k b * (v - g b)
  | n + 1, h => by
    show sm (fun i => k i * up g b v i) n + k n * up g b v n = sm (fun i => k i * g i) n + k n * g n + k b * (v - g b)
    by_cases e : b = n
    · subst e
      have e1 : sm (fun i => k i * up g b v i) b = sm (fun i => k i * g i) b := sm_congr (fun i hi => by rw [up_o (by omega)])
      rw [e1, up_s, Int.mul_sub]
      omega
    · rw [sm_up (n := n) (by omega), up_o (by omega)]
      omega
theorem sm_one {x : Nat} {v : Int} : ∀ {n : Nat}, x < n → sm (fun c => if c = x then v else 0) n = v
  | n + 1, h => by
    show sm (fun c => if c = x then v else 0) n + (if n = x then v else 0) = v
    by_cases e : x = n
    · subst e
      rw [if_pos rfl, sm_zero (fun i hi => if_neg (by omega))]
      omega
    · rw [sm_one (n := n) (by omega), if_neg (by omega)]
      omega
theorem sm_mul {g : Nat → Int} {v : Int} : ∀ {n : Nat}, sm (fun c => g c * v) n = sm g n * v
  | 0 => by show (0 : Int) = 0 * v; omega
  | n + 1 => by
    show sm (fun c => g c * v) n + g n * v = (sm g n + g n) * v
    rw [sm_mul (n := n), Int.add_mul]
theorem sm_ind {S : Nat → Bool} {x : Nat} {n : Nat} (hx : x < n) : sm (fun c => (if S c = true then (1 : Int) else 0) * (if x = c then 1 else 0)) n = if S x = true then 1 else 0 := by
  rw [← sm_one (x := x) (v := if S x = true then 1 else 0) hx]
  refine sm_congr (fun i hi => ?_)
  by_cases e : i = x
  · rw [e, if_pos rfl, if_pos rfl]
    omega
  · rw [if_neg (show ¬ x = i from fun z => e z.symm), if_neg (show ¬ i = x from e)]
    omega
def cr (S : Nat → Bool) (b : Nat) : Int := (if S (lc b) = true then 1 else 0) - (if S (mc b) = true then 1 else 0)
theorem cutF {S : Nat → Bool} {f : Nat → Int} : sm (fun c => (if S c = true then 1 else 0) * outF f c) 36 = sm (fun b => cr S b * f b) 60 := by
  have e : ∀ c, (if S c = true then (1 : Int) else 0) * outF f c = sm (fun b => (if S c = true then (1 : Int) else 0) * ic b c * f b) 60 := fun c => by
    unfold outF
    rw [Int.mul_comm, ← sm_mul]
    exact sm_congr (fun b _ => by rw [Int.mul_comm, Int.mul_assoc])
  rw [sm_congr (fun c _ => e c), sm_swap]
  refine sm_congr (fun b hb => ?_)
  rw [sm_mul (g := fun c => (if S c = true then (1 : Int) else 0) * ic b c)]
  have e2 : sm (fun c => (if S c = true then (1 : Int) else 0) * ic b c) 36 = cr S b := by
    unfold cr
    rw [← sm_ind (S := S) (lc_lt b hb), ← sm_ind (S := S) (mc_lt b hb)]
    have : ∀ c, (if S c = true then (1 : Int) else 0) * ic b c + (if S c = true then (1 : Int) else 0) * (if mc b = c then 1 else 0) = (if S c = true then (1 : Int) else 0) * (if lc b = c then 1 else 0) := fun c => by
      unfold ic
      rw [← Int.mul_add]
      congr 1
      omega
    have h2 := sm_add (f := fun c => (if S c = true then (1 : Int) else 0) * ic b c) (g := fun c => (if S c = true then (1 : Int) else 0) * (if mc b = c then 1 else 0)) (N := 36)
    rw [sm_congr (fun c _ => this c)] at h2
    omega
  rw [e2]
theorem valF {O : Nat → Bool} {s e : Nat} {k : Int} {f : Nat → Int} {S : Nat → Bool} (F : FlW O s e k f) (hs : s < 36) (hS : S s = true) (hE : S e = false) : sm (fun b => cr S b * f b) 60 = k := by
  rw [← cutF, ← sm_one (x := s) (v := k) hs]
  refine sm_congr (fun c hc => ?_)
  rw [F.2 c hc]
  by_cases h1 : c = s
  · have h2 : c ≠ e := fun z => by rw [← z, h1, hS] at hE; cases hE
    rw [if_pos h1, if_neg h2, h1, hS, if_pos rfl]
    omega
  · rw [if_neg h1]
    by_cases h2 : c = e
    · rw [h2, hE, if_neg (by decide)]
      omega
    · rw [if_neg h2]
      omega
/-- what can't be gone over bounds every flow -/
theorem cut_le {O : Nat → Bool} {s e : Nat} {k m : Int} {f g : Nat → Int} {S : Nat → Bool} (F : FlW O s e k f) (G : FlW O s e m g) (hs : s < 36) (hS : S s = true) (hE : S e = false) (hcl : ∀ b p u, b < 60 → jo b p u → S p = true → Rm O f b p → S u = true) : m ≤ k := by
  rw [← valF F hs hS hE, ← valF G hs hS hE]
  refine sm_mono (fun b hb => ?_)
  have f1 := F.1 b hb
  have g1 := G.1 b hb
  have hne := lcmc b hb
  unfold cr
  cases h1 : S (lc b) <;> cases h2 : S (mc b)
  · simp
  · simp
    cases ho : O b
    · rw [f1.2 ho, g1.2 ho]
      omega
    · have := fun z => hcl b (mc b) (lc b) hb (Or.inr ⟨rfl, rfl⟩) h2 ⟨ho, z⟩
      rw [if_neg hne, h1] at this
      have : f b = -1 := Classical.byContradiction fun z => by cases this z
      omega
  · simp
    cases ho : O b
    · rw [f1.2 ho, g1.2 ho]
      omega
    · have := fun z => hcl b (lc b) (mc b) hb (Or.inl ⟨rfl, rfl⟩) h1 ⟨ho, z⟩
      rw [if_pos rfl, h2] at this
      have : f b = 1 := Classical.byContradiction fun z => by cases this z
      omega
  · simp
def dgB (c b : Nat) : Bool := decide (lc b = c) || decide (mc b = c)
theorem dg4 : ∀ c, c < 36 → nn (dgB c) 60 ≤ 4 := by decide +kernel
theorem val4 {O : Nat → Bool} {s e : Nat} {k : Int} {f : Nat → Int} (F : FlW O s e k f) (hs : s < 36) (hne : s ≠ e) : k ≤ 4 := by
  have h1 := F.2 s hs
  rw [if_pos rfl, if_neg hne] at h1
  have h2 : outF f s ≤ nn (dgB s) 60 := by
    unfold outF nn
    refine sm_mono (fun b hb => ?_)
    have f1 := F.1 b hb
    have := lcmc b hb
    unfold ic dgB
    by_cases e1 : lc b = s
    · have e2 : mc b ≠ s := fun z => this (e1.trans z.symm)
      rw [if_pos e1, if_neg e2, decide_eq_true e1, Bool.true_or, if_pos rfl]
      omega
    · by_cases e2 : mc b = s
      · rw [if_neg e1, if_pos e2, decide_eq_true e2, Bool.or_true, if_pos rfl]
        omega
      · rw [if_neg e1, if_neg e2, decide_eq_false e1, decide_eq_false e2]
        simp
  have := dg4 s hs
  omega
theorem FlW.z {O : Nat → Bool} {s e : Nat} : FlW O s e 0 (fun _ => 0) := ⟨fun b hb => ⟨⟨(by decide : (-1 : Int) ≤ 0), (by decide : (0 : Int) ≤ 1)⟩, fun _ => rfl⟩, fun c hc => by
  unfold outF
  rw [sm_zero (fun i hi => Int.mul_zero _)]
  split <;> split <;> rfl⟩
theorem FlW.cg {O : Nat → Bool} {s e : Nat} {k : Int} {f g : Nat → Int} (h : ∀ b, b < 60 → f b = g b) (F : FlW O s e k f) : FlW O s e k g := ⟨fun b hb => by rw [← h b hb]; exact F.1 b hb, fun c hc => by
  rw [← F.2 c hc]
  unfold outF
  exact sm_congr (fun b hb => by rw [h b hb])⟩
/-- what was come to, and from where -/
def Vs (s : Nat) (C : Nat → Int) (u : Nat) : Bool := decide (u = s) || decide (C u ≠ -1)
def Tr (R : Nat → Nat → Prop) (s : Nat) (C : Nat → Int) (rk : Nat → Nat) : Prop := ∀ u, u < 36 → Vs s C u = true → (rk u : Int) < nn (Vs s C) 36 ∧ (u ≠ s → ∃ b p : Nat, b < 60 ∧ p < 36 ∧ C u = b ∧ jo b p u ∧ R b p ∧ Vs s C p = true ∧ rk p < rk u)
theorem Tr.add {R : Nat → Nat → Prop} {s : Nat} {C : Nat → Int} {rk : Nat → Nat} (T : Tr R s C rk) {b p u : Nat} (hb : b < 60) (hp : p < 36) (hu : u < 36) (hj : jo b p u) (hR : R b p) (hV : Vs s C p = true) (hn : Vs s C u = false) : (∃ rk', Tr R s (up C u b) rk') ∧ nn (Vs s (up C u b)) 36 = nn (Vs s C) 36 + 1 ∧ ∀ v, Vs s (up C u b) v = (Vs s C v || decide (v = u)) := by
  have hV2 : ∀ v, Vs s (up C u b) v = (Vs s C v || decide (v = u)) := fun v => by
    unfold Vs
    by_cases e : v = u
    · rw [e, up_s, decide_eq_true (show (b : Int) ≠ -1 by omega), decide_eq_true (rfl : u = u), Bool.or_true, Bool.or_true]
    · rw [up_o e, decide_eq_false e, Bool.or_false]
  have hus : u ≠ s := fun e => by
    unfold Vs at hn
    rw [decide_eq_true e, Bool.true_or] at hn
    cases hn
  have hnn : nn (Vs s (up C u b)) 36 = nn (Vs s C) 36 + 1 := by
    have h1 := nn_or (p := Vs s C) (q := fun v => decide (v = u)) (N := 36) (fun v _ z => by
      rw [decide_eq_true_eq] at z
      rw [z.2, hn] at z
      cases z.1)
    rw [nn_one hu (decide_eq_true rfl) (fun v _ z => of_decide_eq_true z)] at h1
    rw [h1]
    exact nn_cg (fun v _ => hV2 v)
  refine ⟨⟨fun v => if v = u then (nn (Vs s C) 36).toNat else rk v, fun v hv h => ?_⟩, hnn, hV2⟩
  have h0 := nn_b (p := Vs s C) (N := 36)
  rw [hnn]
  dsimp only
  by_cases e : v = u
  · rw [if_pos e]
    refine ⟨by omega, fun _ => ⟨b, p, hb, hp, by rw [e, up_s], by rw [e]; exact hj, hR, by rw [hV2, hV, Bool.true_or], ?_⟩⟩
    have hpu : p ≠ u := fun z => by rw [z, hn] at hV; cases hV
    rw [if_neg hpu]
    have := (T p hp hV).1
    omega
  · rw [if_neg e]
    have hv2 : Vs s C v = true := by
      rw [hV2, decide_eq_false e, Bool.or_false] at h
      exact h
    obtain ⟨t1, t2⟩ := T v hv hv2
    refine ⟨by omega, fun hs => ?_⟩
    obtain ⟨b', p', x1, x2, x3, x4, x5, x6, x7⟩ := t2 hs
    refine ⟨b', p', x1, x2, by rw [up_o e]; exact x3, x4, x5, by rw [hV2, x6, Bool.true_or], ?_⟩
    have hpu : p' ≠ u := fun z => by rw [z, hn] at x6; cases x6
    rw [if_neg hpu]
    exact x7
/-- walking back: so far the unit flows from u to e -/
def Bk (f : Nat → Int) (O : Nat → Bool) (s e : Nat) (C : Nat → Int) (rk : Nat → Nat) (u : Nat) (g : Nat → Int) : Prop := (∀ b, b < 60 → (-1 ≤ g b ∧ g b ≤ 1) ∧ (O b = false → g b = 0)) ∧ (∀ c, c < 36 → outF g c = outF f c + (if c = u then 1 else 0) - (if c = e then 1 else 0)) ∧ ∀ b, b < 60 → g b = f b ∨ ∃ x p, x < 36 ∧ rk u < rk x ∧ jo b p x ∧ rk p < rk x
theorem Bk.st {f : Nat → Int} {O : Nat → Bool} {s e : Nat} {C : Nat → Int} {rk : Nat → Nat} {k : Int} (F : FlW O s e k f) : Bk f O s e C rk e f := ⟨F.1, fun c hc => by omega, fun b hb => Or.inl rfl⟩
def wy (b p : Nat) : Int := if lc b = p then 1 else -1
theorem Bk.go {f : Nat → Int} {O : Nat → Bool} {s e : Nat} {C : Nat → Int} {rk : Nat → Nat} {u : Nat} {g : Nat → Int} (B : Bk f O s e C rk u g) (hF : ∀ b, b < 60 → -1 ≤ f b ∧ f b ≤ 1) (T : Tr (Rm O f) s C rk) (hu : u < 36) (hV : Vs s C u = true) (hne : u ≠ s) : ∃ b p : Nat, (b < 60 ∧ p < 36 ∧ C u = b ∧ jo b p u ∧ Vs s C p = true ∧ rk p < rk u) ∧ g b = f b ∧ Bk f O s e C rk p (up g b (g b + wy b p)) := by
  obtain ⟨b, p, b1, b2, b3, b4, b5, b6, b7⟩ := (T u hu hV).2 hne
  have hne2 := lcmc b b1
  have hg : g b = f b := by
    rcases B.2.2 b b1 with z | ⟨x, q, x1, x2, x3, x4⟩
    · exact z
    · exfalso
      unfold jo at b4 x3
      rcases b4 with ⟨z1, z2⟩ | ⟨z1, z2⟩ <;> rcases x3 with ⟨y1, y2⟩ | ⟨y1, y2⟩
      · have : x = u := y2.symm.trans z2
        subst this
        omega
      · have : x = p := y1.symm.trans z1
        subst this
        omega
      · have : x = p := y2.symm.trans z2
        subst this
        omega
      · have : x = u := y1.symm.trans z1
        subst this
        omega
  have hfb := hF b b1
  refine ⟨b, p, ⟨b1, b2, b3, b4, b6, b7⟩, hg, ⟨fun c hc => ?_, fun c hc => ?_, fun c hc => ?_⟩⟩
  · by_cases ec : c = b
    · rw [ec, up_s, hg]
      obtain ⟨r1, r2⟩ := b5
      refine ⟨?_, fun z => by rw [r1] at z; cases z⟩
      unfold wy
      by_cases h : lc b = p
      · rw [if_pos h] at r2 ⊢
        omega
      · rw [if_neg h] at r2 ⊢
        omega
    · rw [up_o ec]
      exact B.1 c hc
  · have e1 : outF (up g b (g b + wy b p)) c = outF g c + ic b c * wy b p := by
      unfold outF
      rw [sm_up b1]
      congr 2
      omega
    rw [e1, B.2.1 c hc]
    have hpu : p ≠ u := fun z => by rw [z] at b7; omega
    unfold ic wy
    rcases b4 with ⟨z1, z2⟩ | ⟨z1, z2⟩
    · rw [z1, z2, if_pos rfl]
      by_cases c1 : c = p
      · rw [if_pos c1, if_pos c1.symm, if_neg (show ¬ u = c from fun z => hpu (c1.symm.trans z.symm)), if_neg (show ¬ c = u from fun z => hpu (c1.symm.trans z))]
        omega
      · by_cases c2 : c = u
        · rw [if_pos c2, if_neg c1, if_neg (show ¬ p = c from fun z => c1 z.symm), if_pos c2.symm]
          omega
        · rw [if_neg c2, if_neg c1, if_neg (show ¬ p = c from fun z => c1 z.symm), if_neg (show ¬ u = c from fun z => c2 z.symm)]
          omega
    · rw [z1, z2, if_neg (show ¬ u = p from fun z => hpu z.symm)]
      by_cases c1 : c = p
      · rw [if_pos c1, if_pos c1.symm, if_neg (show ¬ u = c from fun z => hpu (c1.symm.trans z.symm)), if_neg (show ¬ c = u from fun z => hpu (c1.symm.trans z))]
        omega
      · by_cases c2 : c = u
        · rw [if_pos c2, if_neg c1, if_neg (show ¬ p = c from fun z => c1 z.symm), if_pos c2.symm]
          omega
        · rw [if_neg c2, if_neg c1, if_neg (show ¬ p = c from fun z => c1 z.symm), if_neg (show ¬ u = c from fun z => c2 z.symm)]
          omega
  · by_cases ec : c = b
    · exact Or.inr ⟨u, p, hu, b7, by rw [ec]; exact b4, b7⟩
    · rw [up_o ec]
      rcases B.2.2 c hc with z | ⟨x, q, x1, x2, x3, x4⟩
      · exact Or.inl z
      · exact Or.inr ⟨x, q, x1, by omega, x3, x4⟩
theorem Bk.en {f : Nat → Int} {O : Nat → Bool} {s e : Nat} {C : Nat → Int} {rk : Nat → Nat} {g : Nat → Int} {k : Int} (F : FlW O s e k f) (B : Bk f O s e C rk s g) : FlW O s e (k + 1) g := ⟨B.1, fun c hc => by
  rw [B.2.1 c hc, F.2 c hc]
  split <;> split <;> omega⟩
