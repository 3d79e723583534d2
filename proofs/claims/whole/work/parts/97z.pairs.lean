/-! PAIRS: sets of families, pure -/
def tb (S g : Nat) : Bool := Nat.testBit S g
def lw (S : Nat) : Nat := if tb S 0 = true then 0 else if tb S 1 = true then 1 else if tb S 2 = true then 2 else if tb S 3 = true then 3 else if tb S 4 = true then 4 else 5
def rs (S : Nat) : Nat := S - 2 ^ lw S
theorem tb_1 : ∀ S : Nat, S < 64 → ∀ g : Nat, g < 6 → bAnd (bShr (S : Int) (g : Int)) 1 = if tb S g = true then 1 else 0 := by decide +kernel
theorem tb_2 : ∀ S : Nat, S < 64 → ∀ g : Nat, g < 6 → tb S g = true → bAnd (S : Int) (bXor (bShl 1 (g : Int)) (-1)) = ((S - 2 ^ g : Nat) : Int) ∧ 2 ^ g ≤ S := by decide +kernel
theorem tb_3 : ∀ S : Nat, S < 64 → ∀ g : Nat, g < 6 → tb S g = true → ∀ k : Nat, k < 6 → tb (S - 2 ^ g) k = (tb S k && decide (k ≠ g)) := by decide +kernel
theorem tb_4 : ∀ S : Nat, S < 64 → 1 ≤ S → (tb S (lw S) = true ∧ lw S < 6) ∧ ∀ g : Nat, g < 6 → g < lw S → tb S g = false := by decide +kernel
theorem tb_5 : ∀ S : Nat, S < 64 → ∀ g : Nat, g < 6 → (tb S g = true ∧ g ≠ lw S) → lw (S - 2 ^ g) = lw S ∧ 1 ≤ S - 2 ^ g ∧ S - 2 ^ g - 2 ^ lw S = S - 2 ^ lw S - 2 ^ g := by decide +kernel
theorem tb_6 : ∀ n : Nat, n < 7 → ∀ S : Nat, S < 64 → ∀ g : Nat, g < 6 → (S < 2 ^ n ∧ tb S g = true) → g < n := by decide +kernel
theorem tb_7 : ∀ n : Nat, n < 7 → ∀ g : Nat, g < 6 → tb (2 ^ n - 1) g = decide (g < n) := by decide +kernel
theorem tb_0 : ∀ g : Nat, g < 6 → tb 0 g = false := by decide +kernel
theorem tb_8 {S : Nat} (hS : S < 64) {g k : Nat} (hg : g < 6) (hk : k < 6) (h1 : tb S g = true) (h2 : tb S k = true) (hne : k ≠ g) : S - 2 ^ g - 2 ^ k = S - 2 ^ k - 2 ^ g := by
  rw [Nat.sub_sub, Nat.sub_sub, Nat.add_comm]
def ntX (S : Int) : Int := bAnd (bXor S (-1)) (w32 (S - 1))
def ntA (x a : Int) : Int := if 4 < x then w32 (w32 (a + 2) + bUshr (bUshr x 2) 1) else w32 (a + bUshr x 1)
def ntV (S : Int) : Int := if 0 < ntX S then (if 16 < ntX S then ntA (bUshr (ntX S) 4) (w32 (1 + 4)) else ntA (ntX S) 1) else bAnd (ntX S) 32
theorem nt_1 : ∀ S : Nat, S < 64 → 1 ≤ S → ntX (S : Int) ≤ 256 ∧ ntV (S : Int) = (lw S : Int) := by decide +kernel
/-- what the worth of a set is -/
def Wp (n : Nat) (vp : Nat → Nat → Int) (W : Nat → Int) : Prop := W 0 = 0 ∧ ∀ S, 1 ≤ S → S < 2 ^ n → (W (rs S) ≤ W S ∧ ∀ g, g < 6 → tb (rs S) g = true → 0 < vp (lw S) g → vp (lw S) g + W (rs S - 2 ^ g) ≤ W S) ∧ (W S = W (rs S) ∨ ∃ g, g < 6 ∧ tb (rs S) g = true ∧ 0 < vp (lw S) g ∧ W S = vp (lw S) g + W (rs S - 2 ^ g))
theorem rs_lt {S : Nat} (hS : S < 64) (h1 : 1 ≤ S) : rs S < S := by
  have := tb_4 S hS h1
  have h2 := tb_2 S hS (lw S) this.1.2 this.1.1
  have : 1 ≤ 2 ^ lw S := Nat.one_le_two_pow
  unfold rs
  omega
theorem two_le {n : Nat} (hn : n < 7) : 2 ^ n ≤ 64 := Nat.pow_le_pow_right (n := 2) (by decide) (show n ≤ 6 by omega)
theorem Wp.uni {n : Nat} {vp vp' : Nat → Nat → Int} {W W' : Nat → Int} (hn : n < 7) (hv : ∀ f g, f < g → g < n → vp f g = vp' f g) (h : Wp n vp W) (h' : Wp n vp' W') : ∀ S, S < 2 ^ n → W S = W' S := by
  have h64 := two_le hn
  intro S
  induction S using Nat.strongRecOn with
  | ind S ih =>
    intro hS
    by_cases h0 : S = 0
    · rw [h0, h.1, h'.1]
    · have hS64 : S < 64 := by omega
      have hr := rs_lt hS64 (by omega)
      have t4 := tb_4 S hS64 (by omega)
      have e1 := ih (rs S) hr (by omega)
      have e2 : ∀ g, W (rs S - 2 ^ g) = W' (rs S - 2 ^ g) := fun g => ih _ (Nat.lt_of_le_of_lt (Nat.sub_le _ _) hr) (Nat.lt_trans (Nat.lt_of_le_of_lt (Nat.sub_le _ _) hr) hS)
      have ev : ∀ g, g < 6 → tb (rs S) g = true → vp (lw S) g = vp' (lw S) g := fun g hg hb => by
        have t3 := tb_3 S hS64 (lw S) t4.1.2 t4.1.1 g hg
        have hb2 : tb (S - 2 ^ lw S) g = true := hb
        rw [t3, Bool.and_eq_true, decide_eq_true_eq] at hb2
        have hgn := tb_6 n hn S hS64 g hg ⟨hS, hb2.1⟩
        refine hv _ _ ?_ hgn
        rcases Nat.lt_or_ge g (lw S) with z | z
        · rw [t4.2 g hg z] at hb2
          cases hb2.1
        · omega
      obtain ⟨⟨a1, a2⟩, a3⟩ := h.2 S (by omega) hS
      obtain ⟨⟨b1, b2⟩, b3⟩ := h'.2 S (by omega) hS
      have le1 : W S ≤ W' S := by
        rcases a3 with z | ⟨g, g1, g2, g3, g4⟩
        · omega
        · have := b2 g g1 g2 (by rw [← ev g g1 g2]; exact g3)
          rw [← ev g g1 g2, ← e2] at this
          omega
      have le2 : W' S ≤ W S := by
        rcases b3 with z | ⟨g, g1, g2, g3, g4⟩
        · omega
        · have := a2 g g1 g2 (by rw [ev g g1 g2]; exact g3)
          rw [ev g g1 g2, e2] at this
          omega
      omega
/-- as the class reckons it: pairs that cannot meet count as worth nothing -/
def Wq (n : Nat) (vp : Nat → Nat → Int) (W : Nat → Int) : Prop := W 0 = 0 ∧ ∀ S, 1 ≤ S → S < 2 ^ n → (W (rs S) ≤ W S ∧ ∀ g, g < 6 → tb (rs S) g = true → vp (lw S) g + W (rs S - 2 ^ g) ≤ W S) ∧ (W S = W (rs S) ∨ ∃ g, g < 6 ∧ tb (rs S) g = true ∧ W S = vp (lw S) g + W (rs S - 2 ^ g))
theorem Wq.mono {n : Nat} {vp : Nat → Nat → Int} {W : Nat → Int} (hn : n < 7) (h : Wq n vp W) : ∀ S, S < 2 ^ n → ∀ g, g < 6 → tb S g = true → W (S - 2 ^ g) ≤ W S := by
  have h64 := two_le hn
  intro S
  induction S using Nat.strongRecOn with
  | ind S ih =>
    intro hS g hg hb
    have hS64 : S < 64 := by omega
    have h2 := tb_2 S hS64 g hg hb
    have hp : 1 ≤ 2 ^ g := Nat.one_le_two_pow
    have h1 : 1 ≤ S := by omega
    have t4 := tb_4 S hS64 h1
    have hr := rs_lt hS64 h1
    have a1 := (h.2 S h1 hS).1.1
    have a2 := (h.2 S h1 hS).1.2
    by_cases e : g = lw S
    · rw [e]
      exact a1
    · obtain ⟨m1, m2, m3⟩ := tb_5 S hS64 g hg ⟨hb, e⟩
      have er : rs (S - 2 ^ g) = rs S - 2 ^ g := by
        unfold rs
        rw [m1]
        exact m3
      have hgr : tb (rs S) g = true := by
        have t3 := tb_3 S hS64 (lw S) t4.1.2 t4.1.1 g hg
        unfold rs
        rw [t3, hb, decide_eq_true e]
        rfl
      obtain ⟨-, b3⟩ := h.2 (S - 2 ^ g) m2 (by omega)
      rw [m1, er] at b3
      have i1 := ih (rs S) hr (by omega) g hg hgr
      rcases b3 with z | ⟨k, k1, k2, k3⟩
      · omega
      · have t3 := tb_3 (rs S) (by omega) g hg hgr k k1
        rw [t3, Bool.and_eq_true, decide_eq_true_eq] at k2
        have hk2 := tb_2 (rs S) (by omega) k k1 k2.1
        have hkp : 1 ≤ 2 ^ k := Nat.one_le_two_pow
        have t3' := tb_3 (rs S) (by omega) k k1 k2.1 g hg
        have i2 := ih (rs S - 2 ^ k) (by omega) (by omega) g hg (by rw [t3', hgr, decide_eq_true (show g ≠ k from fun z => k2.2 z.symm)]; rfl)
        have a4 := a2 k k1 k2.1
        have e8 := tb_8 (S := rs S) (by omega) hg k1 hgr k2.1 k2.2
        rw [e8] at k3
        omega
theorem Wq.p {n : Nat} {vp : Nat → Nat → Int} {W : Nat → Int} (hn : n < 7) (hv : ∀ f g, f < g → g < n → 0 ≤ vp f g) (h : Wq n vp W) : Wp n vp W := by
  have h64 := two_le hn
  refine ⟨h.1, fun S h1 hS => ?_⟩
  have hS64 : S < 64 := by omega
  have hr := rs_lt hS64 h1
  have t4 := tb_4 S hS64 h1
  obtain ⟨⟨a1, a2⟩, a3⟩ := h.2 S h1 hS
  refine ⟨⟨a1, fun g hg hb _ => a2 g hg hb⟩, ?_⟩
  rcases a3 with z | ⟨g, g1, g2, g3⟩
  · exact Or.inl z
  · by_cases hp : 0 < vp (lw S) g
    · exact Or.inr ⟨g, g1, g2, hp, g3⟩
    · refine Or.inl ?_
      have hm := h.mono hn (rs S) (by omega) g g1 g2
      omega
theorem Wp.nn {n : Nat} {vp : Nat → Nat → Int} {W : Nat → Int} (hn : n < 7) (h : Wp n vp W) : ∀ S, S < 2 ^ n → 0 ≤ W S := by
  have h64 := two_le hn
  intro S
  induction S using Nat.strongRecOn with
  | ind S ih =>
    intro hS
    by_cases h0 : S = 0
    · rw [h0, h.1]
      exact Int.le_refl 0
    · have := (h.2 S (by omega) hS).1.1
      have hr := rs_lt (S := S) (by omega) (by omega)
      have := ih (rs S) hr (by omega)
      omega
/-- the first one that is best for the lowest of a set; n where it stays alone -/
def cnd (vp : Nat → Nat → Int) (W : Nat → Int) (S g : Nat) : Bool := tb (rs S) g && (decide (0 < vp (lw S) g) && decide (vp (lw S) g + W (rs S - 2 ^ g) = W S))
def chF (vp : Nat → Nat → Int) (W : Nat → Int) (S n g z : Nat) : Nat := if z = n then (if cnd vp W S g = true then g else z) else z
def ch (vp : Nat → Nat → Int) (W : Nat → Int) (S n : Nat) : Nat := fo (chF vp W S n) n n
theorem ch_i {vp : Nat → Nat → Int} {W : Nat → Int} {S n : Nat} : ∀ k, k ≤ n → (fo (chF vp W S n) k n = n ∧ ∀ g, g < k → cnd vp W S g = false) ∨ (fo (chF vp W S n) k n < k ∧ cnd vp W S (fo (chF vp W S n) k n) = true ∧ ∀ g, g < fo (chF vp W S n) k n → cnd vp W S g = false)
  | 0, _ => Or.inl ⟨rfl, fun g hg => absurd hg (Nat.not_lt_zero g)⟩
  | k + 1, hk => by
    have ih := ch_i (vp := vp) (W := W) (S := S) (n := n) k (by omega)
    have es : fo (chF vp W S n) (k + 1) n = chF vp W S n k (fo (chF vp W S n) k n) := rfl
    rw [es]
    generalize fo (chF vp W S n) k n = z at ih ⊢
    unfold chF
    rcases ih with ⟨i1, i2⟩ | ⟨i1, i2, i3⟩
    · rw [if_pos i1]
      by_cases hc : cnd vp W S k = true
      · rw [if_pos hc]
        exact Or.inr ⟨Nat.lt_succ_self k, hc, i2⟩
      · rw [if_neg hc]
        refine Or.inl ⟨i1, fun g hg => ?_⟩
        by_cases e : g = k
        · rw [e]
          exact Bool.eq_false_iff.mpr hc
        · exact i2 g (by omega)
    · rw [if_neg (by omega)]
      exact Or.inr ⟨by omega, i2, i3⟩
theorem ch_p {vp : Nat → Nat → Int} {W : Nat → Int} {S n : Nat} : (ch vp W S n = n ∧ ∀ g, g < n → cnd vp W S g = false) ∨ (ch vp W S n < n ∧ cnd vp W S (ch vp W S n) = true ∧ ∀ g, g < ch vp W S n → cnd vp W S g = false) := ch_i n (Nat.le_refl n)
theorem ch_cg {vp vp' : Nat → Nat → Int} {W W' : Nat → Int} {S n : Nat} (h : ∀ g, g < n → cnd vp W S g = cnd vp' W' S g) : ch vp W S n = ch vp' W' S n := by
  refine fo_congr (fun g z hg => ?_)
  unfold chF
  rw [h g hg]
def nxt (vp : Nat → Nat → Int) (W : Nat → Int) (S n : Nat) : Nat := if ch vp W S n = n then rs S else rs S - 2 ^ ch vp W S n
/-- with whom x is put, from a set that x is in -/
def prF (vp : Nat → Nat → Int) (W : Nat → Int) (n x : Nat) : Nat → Nat → Int
  | 0, _ => -1
  | k + 1, S => if lw S = x then (if ch vp W S n = n then -1 else (ch vp W S n : Int)) else if ch vp W S n = x then (lw S : Int) else prF vp W n x k (nxt vp W S n)
theorem nxt_lt {vp : Nat → Nat → Int} {W : Nat → Int} {S n : Nat} (hS : S < 64) (h1 : 1 ≤ S) : nxt vp W S n < S := by
  have := rs_lt hS h1
  unfold nxt
  split
  · exact this
  · exact Nat.lt_of_le_of_lt (Nat.sub_le _ _) this
/-- who is left -/
theorem ch_in {vp : Nat → Nat → Int} {W : Nat → Int} {S n : Nat} (hS : S < 64) (h1 : 1 ≤ S) (hn : n < 7) : lw S < 6 ∧ tb S (lw S) = true ∧ (ch vp W S n = n ∨ (ch vp W S n < n ∧ lw S < ch vp W S n ∧ tb S (ch vp W S n) = true ∧ tb (rs S) (ch vp W S n) = true ∧ 0 < vp (lw S) (ch vp W S n) ∧ vp (lw S) (ch vp W S n) + W (rs S - 2 ^ ch vp W S n) = W S)) ∧ ∀ k, k < 6 → tb (nxt vp W S n) k = (tb S k && (decide (k ≠ lw S) && decide (ch vp W S n = n ∨ k ≠ ch vp W S n))) := by
  have t4 := tb_4 S hS h1
  have t3 := tb_3 S hS (lw S) t4.1.2 t4.1.1
  refine ⟨t4.1.2, t4.1.1, ?_, ?_⟩
  · rcases ch_p (vp := vp) (W := W) (S := S) (n := n) with z | ⟨z1, z2, -⟩
    · exact Or.inl z.1
    · refine Or.inr ⟨z1, ?_⟩
      unfold cnd at z2
      rw [Bool.and_eq_true, Bool.and_eq_true, decide_eq_true_eq, decide_eq_true_eq] at z2
      have hb : tb (S - 2 ^ lw S) (ch vp W S n) = true := z2.1
      rw [t3 _ (by omega), Bool.and_eq_true, decide_eq_true_eq] at hb
      refine ⟨?_, hb.1, z2.1, z2.2⟩
      rcases Nat.lt_or_ge (ch vp W S n) (lw S) with y | y
      · rw [t4.2 _ (by omega) y] at hb
        cases hb.1
      · omega
  · intro k hk
    rcases ch_p (vp := vp) (W := W) (S := S) (n := n) with z | ⟨z1, z2, -⟩
    · unfold nxt
      rw [if_pos z.1, decide_eq_true (Or.inl z.1), Bool.and_true]
      exact t3 k hk
    · unfold cnd at z2
      rw [Bool.and_eq_true] at z2
      have hr := rs_lt hS h1
      have t3' := tb_3 (rs S) (by omega) (ch vp W S n) (by omega) z2.1 k hk
      have e1 : tb (rs S) k = (tb S k && decide (k ≠ lw S)) := t3 k hk
      unfold nxt
      rw [if_neg (by omega), t3', e1, Bool.and_assoc]
      congr 2
      rw [decide_eq_decide]
      constructor
      · exact fun y => Or.inr y
      · rintro (y | y)
        · omega
        · exact y
theorem prF_k {vp : Nat → Nat → Int} {W : Nat → Int} {n x : Nat} (hn : n < 7) : ∀ k k' S, S < 64 → S ≤ k → S ≤ k' → x < 6 → tb S x = true → prF vp W n x k S = prF vp W n x k' S := by
  intro k
  induction k with
  | zero =>
    intro k' S hS h1 h2 hx hb
    have : S = 0 := by omega
    rw [this, tb_0 x hx] at hb
    cases hb
  | succ k ih =>
    intro k' S hS h1 h2 hx hb
    have hS1 : 1 ≤ S := by
      rcases Nat.eq_zero_or_pos S with z | z
      · rw [z, tb_0 x hx] at hb
        cases hb
      · exact z
    obtain ⟨k'', rfl⟩ : ∃ m, k' = m + 1 := ⟨k' - 1, by omega⟩
    show (if lw S = x then _ else _) = (if lw S = x then _ else _)
    by_cases e1 : lw S = x
    · rw [if_pos e1, if_pos e1]
    · rw [if_neg e1, if_neg e1]
      by_cases e2 : ch vp W S n = x
      · rw [if_pos e2, if_pos e2]
      · rw [if_neg e2, if_neg e2]
        have hl := nxt_lt (vp := vp) (W := W) (n := n) hS hS1
        have hi := (ch_in (vp := vp) (W := W) hS hS1 hn).2.2.2 x hx
        refine ih k'' _ (by omega) (by omega) (by omega) hx ?_
        rw [hi, hb, decide_eq_true (show x ≠ lw S from fun z => e1 z.symm), decide_eq_true (show ch vp W S n = n ∨ x ≠ ch vp W S n from Or.inr (fun z => e2 z.symm))]
        rfl
