/-! TEXTS: signs, runs, words, things -/
def isL (x : Int) : Bool := decide (97 ≤ x ∧ x ≤ 122)
def isD (x : Int) : Bool := decide (48 ≤ x ∧ x ≤ 57)
def isB (x : Int) : Bool := decide (x = 32)
def rn (P : Int → Bool) (A : Nat → Int) : Nat → Nat → Nat
  | 0, q => q
  | f + 1, q => if P (A q) = true then rn P A f (q + 1) else q
section
variable {P : Int → Bool} {A : Nat → Int} {L : Nat}
theorem rn_b : ∀ f q, q ≤ rn P A f q ∧ rn P A f q ≤ q + f
  | 0, q => ⟨Nat.le_refl _, Nat.le_refl _⟩
  | f + 1, q => by
    have ih := rn_b f (q + 1)
    unfold rn
    split <;> omega
theorem rn_all : ∀ f q k, q ≤ k → k < rn P A f q → P (A k) = true
  | 0, q, k, h1, h2 => by
    have : k < q := h2
    omega
  | f + 1, q, k, h1, h2 => by
    unfold rn at h2
    by_cases h : P (A q) = true
    · rw [if_pos h] at h2
      by_cases e : k = q
      · rw [e]
        exact h
      · exact rn_all f (q + 1) k (by omega) h2
    · rw [if_neg h] at h2
      omega
theorem rn_stop : ∀ f q, rn P A f q < q + f → P (A (rn P A f q)) = false
  | 0, q, h => by
    have : q < q + 0 := h
    omega
  | f + 1, q, h => by
    unfold rn at h ⊢
    by_cases hp : P (A q) = true
    · rw [if_pos hp] at h ⊢
      exact rn_stop f (q + 1) (by omega)
    · rw [if_neg hp]
      exact Bool.eq_false_iff.mpr hp
end
def blk (A : Nat → Int) (L q : Nat) : Nat := rn isB A (L - q) q
def enT (A : Nat → Int) (L q : Nat) : Nat := if isL (A q) = true then rn isL A (L - (q + 1)) (q + 1) else if isD (A q) = true then rn isD A (L - (q + 1)) (q + 1) else q + 1
def nxT (A : Nat → Int) (L q : Nat) : Nat := blk A L (enT A L q)
/-- where a thing may begin -/
def TQ (A : Nat → Int) (L q : Nat) : Prop := q ≤ L ∧ (q < L → A q ≠ 32)
def wdEq (A : Nat → Int) (q e : Nat) (s : List Int) : Bool := decide (e - q = s.length ∧ ∀ i, i < s.length → A (q + i) = s.getD i 0)
def wcL : List Int := [-6, -7, -8, -9, -22, -18, -19, -23, -24, -10, -11, -12, -13, -14, -15, -16, -31, -30, -26, -25, -17, -20, -21]
def wc (j : Nat) : Int := wcL.getD j 0
def wth (A : Nat → Int) (q e : Nat) : Nat → Nat → Int
  | 0, _ => -2
  | n + 1, j => if wdEq A q e (am_lit j) = true then wc j else wth A q e n (j + 1)
def nvT (A : Nat → Int) (q : Nat) : Nat → Int
  | 0 => 0
  | k + 1 => nvT A q k * 10 + A (q + k) - 48
def sgT (x : Int) : Int := if x = 40 then -4 else if x = 41 then -5 else if x = 43 then -27 else if x = 59 then -3 else if x = 60 then -28 else if x = 62 then -29 else -2
def thT (A : Nat → Int) (L q : Nat) : Int := if L ≤ q then -1 else if isL (A q) = true then wth A q (enT A L q) 23 0 else if isD (A q) = true then (if 3 < enT A L q - q then 1000 else nvT A q (enT A L q - q)) else sgT (A q)
section
variable {A : Nat → Int} {L q : Nat}
theorem blk_b (h : q ≤ L) : q ≤ blk A L q ∧ blk A L q ≤ L := by
  have := rn_b (P := isB) (A := A) (L - q) q
  unfold blk
  omega
theorem blk_TQ (h : q ≤ L) : TQ A L (blk A L q) := by
  refine ⟨(blk_b h).2, fun hl => ?_⟩
  have hs := rn_stop (P := isB) (A := A) (L - q) q (by
    show blk A L q < q + (L - q)
    omega)
  exact of_decide_eq_false hs
theorem blk_self (t : TQ A L q) : blk A L q = q := by
  unfold blk
  by_cases h : q < L
  · obtain ⟨f, hf⟩ : ∃ f, L - q = f + 1 := ⟨L - q - 1, by omega⟩
    rw [hf]
    show (if isB (A q) = true then _ else q) = q
    rw [if_neg]
    intro hb
    exact t.2 h (of_decide_eq_true hb)
  · rw [show L - q = 0 by omega]
    rfl
theorem blk_blank (h : q < L) (hb : A q = 32) : blk A L q = blk A L (q + 1) := by
  unfold blk
  obtain ⟨f, hf⟩ : ∃ f, L - q = f + 1 := ⟨L - q - 1, by omega⟩
  rw [hf, show L - (q + 1) = f by omega]
  show (if isB (A q) = true then _ else q) = _
  exact if_pos (decide_eq_true hb)
theorem enT_b (h : q < L) : q < enT A L q ∧ enT A L q ≤ L := by
  have h1 := rn_b (P := isL) (A := A) (L - (q + 1)) (q + 1)
  have h2 := rn_b (P := isD) (A := A) (L - (q + 1)) (q + 1)
  unfold enT
  split
  · omega
  · split <;> omega
theorem nxT_b (h : q < L) : q < nxT A L q ∧ nxT A L q ≤ L ∧ TQ A L (nxT A L q) := by
  have h1 := enT_b (A := A) h
  have h2 := blk_b (A := A) h1.2
  exact ⟨Nat.lt_of_lt_of_le h1.1 h2.1, h2.2, blk_TQ h1.2⟩
theorem wd_uni {e : Nat} {s s' : List Int} (h : wdEq A q e s = true) (h' : wdEq A q e s' = true) : s = s' := by
  have h := of_decide_eq_true h
  have h' := of_decide_eq_true h'
  refine List.ext_getElem (by omega) (fun i h1 h2 => ?_)
  have a := h.2 i h1
  have b := h'.2 i h2
  rw [List.getD_eq_getElem?_getD, List.getElem?_eq_getElem h1] at a
  rw [List.getD_eq_getElem?_getD, List.getElem?_eq_getElem h2] at b
  exact a.symm.trans b
theorem lit_inj : ∀ i : Nat, i < 23 → ∀ j : Nat, j < 23 → am_lit i = am_lit j → i = j := by decide +kernel
theorem wc_inj : ∀ i : Nat, i < 23 → ∀ j : Nat, j < 23 → wc i = wc j → i = j := by decide +kernel
theorem wc_n2 : ∀ j : Nat, j < 23 → wc j ≠ -2 ∧ wc j ≠ -1 ∧ wc j < 0 ∧ wc j ≠ -3 ∧ wc j ≠ -4 ∧ wc j ≠ -5 ∧ wc j ≠ -27 ∧ wc j ≠ -28 ∧ wc j ≠ -29 := by decide +kernel
theorem lit_len : ∀ j : Nat, j < 23 → 1 ≤ (am_lit j).length ∧ (am_lit j).length ≤ 7 ∧ 97 ≤ (am_lit j).getD 0 0 ∧ (am_lit j).getD 0 0 ≤ 122 := by decide +kernel
theorem wth_is {e j : Nat} (hj : j < 23) (h : wdEq A q e (am_lit j) = true) : ∀ n k, k ≤ j → j < k + n → n + k ≤ 23 → wth A q e n k = wc j
  | 0, k, h1, h2, _ => by omega
  | n + 1, k, h1, h2, h3 => by
    unfold wth
    by_cases hk : wdEq A q e (am_lit k) = true
    · rw [if_pos hk, lit_inj k (by omega) j hj (wd_uni hk h)]
    · rw [if_neg hk]
      by_cases ej : j = k
      · rw [ej] at h
        exact absurd h hk
      · exact wth_is hj h n (k + 1) (by omega) (by omega) (by omega)
theorem wth_of {e j : Nat} (hj : j < 23) : ∀ n k, n + k ≤ 23 → wth A q e n k = wc j → wdEq A q e (am_lit j) = true
  | 0, k, _, h => absurd h.symm (wc_n2 j hj).1
  | n + 1, k, h3, h => by
    unfold wth at h
    by_cases hk : wdEq A q e (am_lit k) = true
    · rw [if_pos hk] at h
      rw [← wc_inj k (by omega) j hj h]
      exact hk
    · rw [if_neg hk] at h
      exact wth_of hj n (k + 1) (by omega) h
theorem wth_rng {e : Nat} : ∀ n k, n + k ≤ 23 → wth A q e n k = -2 ∨ ∃ j, j < 23 ∧ wth A q e n k = wc j
  | 0, _, _ => Or.inl rfl
  | n + 1, k, h3 => by
    unfold wth
    by_cases hk : wdEq A q e (am_lit k) = true
    · rw [if_pos hk]
      exact Or.inr ⟨k, by omega, rfl⟩
    · rw [if_neg hk]
      exact wth_rng n (k + 1) (by omega)
/-- the end of the letters that stand at q -/
def leT (A : Nat → Int) (L q : Nat) : Nat := if q < L ∧ isL (A q) = true then enT A L q else q
theorem nv_b {k : Nat} (hk : k ≤ 3) (hd : ∀ i, i < k → isD (A (q + i)) = true) : 0 ≤ nvT A q k ∧ nvT A q k ≤ 999 := by
  have d : ∀ i, i < k → 48 ≤ A (q + i) ∧ A (q + i) ≤ 57 := fun i hi => of_decide_eq_true (hd i hi)
  have h9 : k = 0 ∨ k = 1 ∨ k = 2 ∨ k = 3 := by omega
  rcases h9 with rfl | rfl | rfl | rfl
  · exact ⟨Int.le_refl 0, show (0 : Int) ≤ 999 by decide⟩
  · have d0 := d 0 (by decide)
    show 0 ≤ 0 * 10 + A (q + 0) - 48 ∧ 0 * 10 + A (q + 0) - 48 ≤ 999
    omega
  · have d0 := d 0 (by decide)
    have d1 := d 1 (by decide)
    show 0 ≤ (0 * 10 + A (q + 0) - 48) * 10 + A (q + 1) - 48 ∧ (0 * 10 + A (q + 0) - 48) * 10 + A (q + 1) - 48 ≤ 999
    omega
  · have d0 := d 0 (by decide)
    have d1 := d 1 (by decide)
    have d2 := d 2 (by decide)
    show 0 ≤ ((0 * 10 + A (q + 0) - 48) * 10 + A (q + 1) - 48) * 10 + A (q + 2) - 48 ∧ ((0 * 10 + A (q + 0) - 48) * 10 + A (q + 1) - 48) * 10 + A (q + 2) - 48 ≤ 999
    omega
theorem en_D (h : q < L) (h1 : isL (A q) = false) (h2 : isD (A q) = true) : ∀ i, q + i < enT A L q → isD (A (q + i)) = true := by
  intro i hi
  unfold enT at hi
  rw [if_neg (by rw [h1]; decide), if_pos h2] at hi
  by_cases e : i = 0
  · rw [e]
    exact h2
  · exact rn_all (L - (q + 1)) (q + 1) (q + i) (by omega) hi
theorem sg_rng (x : Int) : sgT x = -2 ∨ sgT x = -3 ∨ sgT x = -4 ∨ sgT x = -5 ∨ sgT x = -27 ∨ sgT x = -28 ∨ sgT x = -29 := by
  unfold sgT
  repeat' split
  all_goals omega
/-- what a thing can be -/
theorem th_cases (t : TQ A L q) : (L ≤ q ∧ thT A L q = -1) ∨ (q < L ∧ isL (A q) = true ∧ isD (A q) = false ∧ thT A L q = wth A q (enT A L q) 23 0) ∨ (q < L ∧ isL (A q) = false ∧ isD (A q) = true ∧ ((3 < enT A L q - q ∧ thT A L q = 1000) ∨ (enT A L q - q ≤ 3 ∧ thT A L q = nvT A q (enT A L q - q) ∧ 0 ≤ thT A L q ∧ thT A L q ≤ 999))) ∨ (q < L ∧ isL (A q) = false ∧ isD (A q) = false ∧ thT A L q = sgT (A q)) := by
  unfold thT
  by_cases h : L ≤ q
  · rw [if_pos h]
    exact Or.inl ⟨h, rfl⟩
  · rw [if_neg h]
    have hq : q < L := by omega
    cases h1 : isL (A q)
    · rw [if_neg (by decide)]
      cases h2 : isD (A q)
      · rw [if_neg (by decide)]
        exact Or.inr (Or.inr (Or.inr ⟨hq, rfl, rfl, rfl⟩))
      · rw [if_pos rfl]
        refine Or.inr (Or.inr (Or.inl ⟨hq, rfl, rfl, ?_⟩))
        by_cases h3 : 3 < enT A L q - q
        · rw [if_pos h3]
          exact Or.inl ⟨h3, rfl⟩
        · rw [if_neg h3]
          have hb := nv_b (A := A) (q := q) (k := enT A L q - q) (by omega) (fun i hi => en_D hq h1 h2 i (by omega))
          exact Or.inr ⟨by omega, rfl, hb.1, hb.2⟩
    · rw [if_pos rfl]
      refine Or.inr (Or.inl ⟨hq, rfl, ?_, rfl⟩)
      have h1 := of_decide_eq_true h1
      exact decide_eq_false (by omega)
theorem th_end (t : TQ A L q) : thT A L q = -1 ↔ L ≤ q := by
  constructor
  · intro h
    rcases th_cases t with ⟨h1, -⟩ | ⟨h1, h2, h3, h4⟩ | ⟨h1, h2, h3, h4⟩ | ⟨h1, h2, h3, h4⟩
    · exact h1
    · rw [h4] at h
      rcases wth_rng (A := A) (q := q) (e := enT A L q) 23 0 (by decide) with z | ⟨j, j1, z⟩
      · omega
      · rw [z] at h
        exact absurd h (wc_n2 j j1).2.1
    · rcases h4 with ⟨-, z⟩ | ⟨-, -, z, -⟩ <;> omega
    · have := sg_rng (A q)
      omega
  · intro h
    unfold thT
    rw [if_pos h]
/-- a word stands there -/
theorem th_word (t : TQ A L q) {j : Nat} (hj : j < 23) : wdEq A q (leT A L q) (am_lit j) = decide (thT A L q = wc j) := by
  have hn := wc_n2 j hj
  have hl := lit_len j hj
  have no : leT A L q = q → wdEq A q (leT A L q) (am_lit j) = false := fun e => decide_eq_false (by
    rw [e]
    intro z
    omega)
  rcases th_cases t with ⟨h1, h4⟩ | ⟨h1, h2, h3, h4⟩ | ⟨h1, h2, h3, h4⟩ | ⟨h1, h2, h3, h4⟩
  · rw [no (if_neg (by omega)), h4, decide_eq_false (fun z => hn.2.1 z.symm)]
  · have e : leT A L q = enT A L q := if_pos ⟨h1, h2⟩
    rw [e, h4]
    cases hw : wdEq A q (enT A L q) (am_lit j)
    · refine (decide_eq_false (fun z => ?_)).symm
      rw [wth_of hj 23 0 (by decide) z] at hw
      cases hw
    · exact (decide_eq_true (wth_is hj hw 23 0 (by omega) (by omega) (by decide))).symm
  · rw [no (if_neg (by rw [h2]; simp))]
    refine (decide_eq_false (fun z => ?_)).symm
    rcases h4 with ⟨-, y⟩ | ⟨-, -, y, -⟩ <;> omega
  · rw [no (if_neg (by rw [h2]; simp))]
    refine (decide_eq_false (fun z => ?_)).symm
    have := sg_rng (A q)
    omega
/-- a sign stands there -/
theorem th_sign (t : TQ A L q) {c s : Int} (hc : (c = 40 ∧ s = -4) ∨ (c = 41 ∧ s = -5) ∨ (c = 43 ∧ s = -27) ∨ (c = 59 ∧ s = -3) ∨ (c = 60 ∧ s = -28) ∨ (c = 62 ∧ s = -29)) : (q < L ∧ A q = c) ↔ thT A L q = s := by
  have hw : ∀ j, j < 23 → wc j ≠ s := fun j hj => by
    have := wc_n2 j hj
    omega
  rcases th_cases t with ⟨h1, h4⟩ | ⟨h1, h2, h3, h4⟩ | ⟨h1, h2, h3, h4⟩ | ⟨h1, h2, h3, h4⟩
  · constructor
    · intro z
      omega
    · intro z
      omega
  · have h2 := of_decide_eq_true h2
    constructor
    · intro z
      omega
    · intro z
      rw [h4] at z
      rcases wth_rng (A := A) (q := q) (e := enT A L q) 23 0 (by decide) with y | ⟨j, j1, y⟩
      · omega
      · rw [y] at z
        exact absurd z (hw j j1)
  · have h3 := of_decide_eq_true h3
    constructor
    · intro z
      omega
    · intro z
      rcases h4 with ⟨-, y⟩ | ⟨-, -, y, -⟩ <;> omega
  · rw [h4]
    unfold sgT
    constructor
    · rintro ⟨-, z⟩
      rw [z]
      rcases hc with ⟨rfl, rfl⟩ | ⟨rfl, rfl⟩ | ⟨rfl, rfl⟩ | ⟨rfl, rfl⟩ | ⟨rfl, rfl⟩ | ⟨rfl, rfl⟩ <;> decide
    · intro z
      refine ⟨h1, ?_⟩
      revert z
      repeat' split
      all_goals omega
theorem en_word (t : TQ A L q) {j : Nat} (hj : j < 23) (h : thT A L q = wc j) : q < L ∧ leT A L q = enT A L q := by
  have hw := th_word t hj
  rw [decide_eq_true h] at hw
  have hw := of_decide_eq_true hw
  have hl := lit_len j hj
  have hd : leT A L q = if q < L ∧ isL (A q) = true then enT A L q else q := rfl
  by_cases hq : q < L ∧ isL (A q) = true
  · rw [if_pos hq] at hd
    exact ⟨hq.1, hd⟩
  · rw [if_neg hq] at hd
    omega
theorem en_sign (h1 : isL (A q) = false) (h2 : isD (A q) = false) : enT A L q = q + 1 := by
  unfold enT
  rw [if_neg (by rw [h1]; decide), if_neg (by rw [h2]; decide)]
end
