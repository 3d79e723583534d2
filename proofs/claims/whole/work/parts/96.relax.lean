/-! WHAT FLOWS OVER BORDERS TILL NOTHING IS LESS: after n - 1 rounds over n nodes nothing changes -/
theorem sm_mono {f g : Nat → Int} : ∀ {n : Nat}, (∀ i, i < n → f i ≤ g i) → sm f n ≤ sm g n
  | 0, _ => Int.le_refl _
  | n + 1, h => by
    have h1 := sm_mono (n := n) (fun i hi => h i (by omega))
    have h2 := h n (Nat.lt_succ_self n)
    show sm f n + f n ≤ sm g n + g n
    omega
theorem sm_lt {f g : Nat → Int} : ∀ {n : Nat}, (∀ i, i < n → f i ≤ g i) → (∃ i, i < n ∧ f i < g i) → sm f n < sm g n
  | 0, _, ⟨i, hi, _⟩ => absurd hi (Nat.not_lt_zero i)
  | n + 1, h, ⟨i, hi, hl⟩ => by
    show sm f n + f n < sm g n + g n
    have h2 := h n (Nat.lt_succ_self n)
    by_cases e : i = n
    · subst e
      have h1 := sm_mono (n := i) (f := f) (g := g) (fun j hj => h j (by omega))
      omega
    · have h1 := sm_lt (n := n) (f := f) (g := g) (fun j hj => h j (by omega)) ⟨i, by omega, hl⟩
      omega
theorem sm_nonneg {f : Nat → Int} : ∀ {n : Nat}, (∀ i, i < n → 0 ≤ f i) → 0 ≤ sm f n
  | 0, _ => Int.le_refl _
  | n + 1, h => by
    have h1 := sm_nonneg (n := n) (fun i hi => h i (by omega))
    have h2 := h n (Nat.lt_succ_self n)
    show 0 ≤ sm f n + f n
    omega
theorem sm_zero0 {f : Nat → Int} : ∀ {n : Nat}, (∀ i, i < n → 0 ≤ f i) → sm f n = 0 → ∀ i, i < n → f i = 0
  | 0, _, _, i, hi => absurd hi (Nat.not_lt_zero i)
  | n + 1, h, h0, i, hi => by
    have h1 := sm_nonneg (n := n) (f := f) (fun i hi => h i (by omega))
    have h2 := h n (Nat.lt_succ_self n)
    have h3 : sm f n + f n = 0 := h0
    by_cases e : i = n
    · subst e; omega
    · exact sm_zero0 (n := n) (fun i hi => h i (by omega)) (by omega) i (by omega)

section
variable (op : Int → Int → Int) (e1 e2 : Nat → Nat) (ad : Nat → Int)
def rx (b : Nat) (C : Nat → Int) : Nat → Int := if op (C (e1 b)) (ad b) < C (e2 b) then up C (e2 b) (op (C (e1 b)) (ad b)) else if op (C (e2 b)) (ad b) < C (e1 b) then up C (e1 b) (op (C (e2 b)) (ad b)) else C
def rd (C : Nat → Int) : Nat → Int := fo (rx op e1 e2 ad) 60 C
def it : Nat → (Nat → Int) → Nat → Int
  | 0, C => C
  | k + 1, C => rd op e1 e2 ad (it k C)
def stb (C : Nat → Int) : Prop := ∀ b, b < 60 → C (e2 b) ≤ op (C (e1 b)) (ad b) ∧ C (e1 b) ≤ op (C (e2 b)) (ad b)
/-- it goes up, and keeps what is less -/
def mon : Prop := (∀ x y a, x ≤ y → op x a ≤ op y a) ∧ ∀ x a, 0 ≤ a → x ≤ op x a
def pl (x a : Int) : Int := x + a
theorem pl_e (x a : Int) : pl x a = x + a := rfl
theorem mon_pl : mon pl := ⟨fun x y a h => by unfold pl; omega, fun x a h => by unfold pl; omega⟩
end
section
variable {op : Int → Int → Int} {e1 e2 : Nat → Nat} {ad : Nat → Int}
theorem rx_le {b : Nat} {C : Nat → Int} (u : Nat) : rx op e1 e2 ad b C u ≤ C u := by
  unfold rx up
  split
  · dsimp only
    split
    · rename_i h1 h2; rw [h2]; omega
    · exact Int.le_refl _
  · split
    · dsimp only
      split
      · rename_i h1 h2; rw [h2]; omega
      · exact Int.le_refl _
    · exact Int.le_refl _
theorem fo_rx_le {C : Nat → Int} (u : Nat) : ∀ {k n : Nat}, k ≤ n → fo (rx op e1 e2 ad) n C u ≤ fo (rx op e1 e2 ad) k C u := by
  intro k n h
  induction h with
  | refl => exact Int.le_refl _
  | step _ ih => exact Int.le_trans (rx_le u) ih
theorem rd_le {C : Nat → Int} (u : Nat) : rd op e1 e2 ad C u ≤ C u := fo_rx_le (k := 0) u (Nat.zero_le 60)
theorem rx_1 {b : Nat} {C : Nat → Int} : rx op e1 e2 ad b C (e2 b) ≤ op (C (e1 b)) (ad b) := by
  by_cases h : op (C (e1 b)) (ad b) < C (e2 b)
  · unfold rx
    rw [if_pos h]
    unfold up
    rw [if_pos rfl]
    exact Int.le_refl _
  · exact Int.le_trans (rx_le _) (by omega)
theorem rx_2 {b : Nat} {C : Nat → Int} (hm : mon op) (ha : 0 ≤ ad b) : rx op e1 e2 ad b C (e1 b) ≤ op (C (e2 b)) (ad b) := by
  have m1 := hm.2 (C (e1 b)) (ad b) ha
  have m2 := hm.2 (C (e2 b)) (ad b) ha
  by_cases h2 : op (C (e2 b)) (ad b) < C (e1 b)
  · have h1 : ¬ op (C (e1 b)) (ad b) < C (e2 b) := by omega
    unfold rx
    rw [if_neg h1, if_pos h2]
    unfold up
    rw [if_pos rfl]
    exact Int.le_refl _
  · exact Int.le_trans (rx_le _) (by omega)
theorem rd_1 {b : Nat} {C : Nat → Int} (hm : mon op) (ha : 0 ≤ ad b) (hb : b < 60) : rd op e1 e2 ad C (e2 b) ≤ op (C (e1 b)) (ad b) ∧ rd op e1 e2 ad C (e1 b) ≤ op (C (e2 b)) (ad b) := by
  have a1 : rd op e1 e2 ad C (e2 b) ≤ fo (rx op e1 e2 ad) (b + 1) C (e2 b) := fo_rx_le _ (show b + 1 ≤ 60 by omega)
  have a2 : rd op e1 e2 ad C (e1 b) ≤ fo (rx op e1 e2 ad) (b + 1) C (e1 b) := fo_rx_le _ (show b + 1 ≤ 60 by omega)
  have a3 : fo (rx op e1 e2 ad) (b + 1) C (e2 b) ≤ op (fo (rx op e1 e2 ad) b C (e1 b)) (ad b) := rx_1
  have a4 : fo (rx op e1 e2 ad) (b + 1) C (e1 b) ≤ op (fo (rx op e1 e2 ad) b C (e2 b)) (ad b) := rx_2 hm ha
  have a5 : fo (rx op e1 e2 ad) b C (e1 b) ≤ C (e1 b) := fo_rx_le (k := 0) _ (Nat.zero_le b)
  have a6 : fo (rx op e1 e2 ad) b C (e2 b) ≤ C (e2 b) := fo_rx_le (k := 0) _ (Nat.zero_le b)
  have a7 := hm.1 _ _ (ad b) a5
  have a8 := hm.1 _ _ (ad b) a6
  omega
theorem rx_ge {n b : Nat} {C G : Nat → Int} (hm : mon op) (h1 : e1 b < n) (h2 : e2 b < n) (hs : G (e2 b) ≤ op (G (e1 b)) (ad b) ∧ G (e1 b) ≤ op (G (e2 b)) (ad b)) (hG : ∀ u, u < n → G u ≤ C u) : ∀ u, u < n → G u ≤ rx op e1 e2 ad b C u := by
  intro u hu
  have g1 := hG _ h1
  have g2 := hG _ h2
  have g3 := hG u hu
  have m1 := hm.1 _ _ (ad b) g1
  have m2 := hm.1 _ _ (ad b) g2
  unfold rx up
  split
  · dsimp only
    split
    · rename_i e; rw [e]; omega
    · exact g3
  · split
    · dsimp only
      split
      · rename_i e; rw [e]; omega
      · exact g3
    · exact g3
theorem rd_ge {n : Nat} {C G : Nat → Int} (hm : mon op) (hn : ∀ b, b < 60 → e1 b < n ∧ e2 b < n) (hs : stb op e1 e2 ad G) (hG : ∀ u, u < n → G u ≤ C u) : ∀ u, u < n → G u ≤ rd op e1 e2 ad C u := by
  have h := fo_inv (f := rx op e1 e2 ad) (N := 60) (s0 := C) (P := fun _ C => ∀ u, u < n → G u ≤ C u) hG (fun b C hb h => rx_ge hm (hn b hb).1 (hn b hb).2 (hs b hb) h)
  unfold rd
  exact h
theorem it_ge {n : Nat} {C G : Nat → Int} (hm : mon op) (hn : ∀ b, b < 60 → e1 b < n ∧ e2 b < n) (hs : stb op e1 e2 ad G) (hG : ∀ u, u < n → G u ≤ C u) : ∀ k u, u < n → G u ≤ it op e1 e2 ad k C u
  | 0 => hG
  | k + 1 => rd_ge hm hn hs (it_ge hm hn hs hG k)
theorem rx_stb {b : Nat} {C : Nat → Int} (hs : C (e2 b) ≤ op (C (e1 b)) (ad b) ∧ C (e1 b) ≤ op (C (e2 b)) (ad b)) : rx op e1 e2 ad b C = C := by
  unfold rx
  rw [if_neg (by omega), if_neg (by omega)]
theorem fo_stb {C : Nat → Int} (hs : stb op e1 e2 ad C) : ∀ {n : Nat}, n ≤ 60 → fo (rx op e1 e2 ad) n C = C
  | 0, _ => rfl
  | n + 1, h => by
    show rx op e1 e2 ad n (fo (rx op e1 e2 ad) n C) = C
    rw [fo_stb hs (by omega)]
    exact rx_stb (hs n (by omega))
theorem rd_stb {C : Nat → Int} (hs : stb op e1 e2 ad C) : rd op e1 e2 ad C = C := fo_stb hs (Nat.le_refl 60)
theorem stb_of {C : Nat → Int} (hm : mon op) (ha : ∀ b, b < 60 → 0 ≤ ad b) (h : rd op e1 e2 ad C = C) : stb op e1 e2 ad C := fun b hb => by
  have := rd_1 (op := op) (e1 := e1) (e2 := e2) (ad := ad) (C := C) hm (ha b hb) hb
  rw [h] at this
  exact this
theorem rx_out {n b : Nat} {C : Nat → Int} (h1 : e1 b < n) (h2 : e2 b < n) {u : Nat} (hu : n ≤ u) : rx op e1 e2 ad b C u = C u := by
  unfold rx up
  split
  · exact if_neg (by omega)
  · split
    · exact if_neg (by omega)
    · rfl
theorem rd_out {n : Nat} {C : Nat → Int} (hn : ∀ b, b < 60 → e1 b < n ∧ e2 b < n) {u : Nat} (hu : n ≤ u) : rd op e1 e2 ad C u = C u := by
  have h := fo_inv (f := rx op e1 e2 ad) (N := 60) (s0 := C) (P := fun _ (D : Nat → Int) => D u = C u) rfl (fun b D hb h => (rx_out (hn b hb).1 (hn b hb).2 hu).trans h)
  unfold rd
  exact h
theorem it_out {n : Nat} {C : Nat → Int} (hn : ∀ b, b < 60 → e1 b < n ∧ e2 b < n) {u : Nat} (hu : n ≤ u) : ∀ k, it op e1 e2 ad k C u = C u
  | 0 => rfl
  | k + 1 => (rd_out hn hu).trans (it_out hn hu k)
theorem it_add {C : Nat → Int} : ∀ (j k : Nat), it op e1 e2 ad j (it op e1 e2 ad k C) = it op e1 e2 ad (k + j) C
  | 0, _ => rfl
  | j + 1, k => congrArg (rd op e1 e2 ad) (it_add j k)
theorem it_stb {C : Nat → Int} (hs : stb op e1 e2 ad C) : ∀ k, it op e1 e2 ad k C = C
  | 0 => rfl
  | k + 1 => by
    show rd op e1 e2 ad (it op e1 e2 ad k C) = C
    rw [it_stb hs k]
    exact rd_stb hs
theorem it_le {C : Nat → Int} (u : Nat) : ∀ k, it op e1 e2 ad (k + 1) C u ≤ it op e1 e2 ad k C u := fun _ => rd_le u
theorem it_end {n : Nat} (hm : mon op) (hn : ∀ b, b < 60 → e1 b < n ∧ e2 b < n) (ha : ∀ b, b < 60 → 0 ≤ ad b) : ∀ (N : Nat) (C : Nat → Int), (∀ u, u < n → 0 ≤ C u) → sm C n ≤ N → ∃ K, stb op e1 e2 ad (it op e1 e2 ad K C)
  | N, C, h0, hN => by
    by_cases hf : rd op e1 e2 ad C = C
    · exact ⟨0, stb_of hm ha hf⟩
    · have h1 : ∀ u, u < n → 0 ≤ rd op e1 e2 ad C u := rd_ge (G := fun _ => 0) hm hn (fun b hb => by have := hm.2 0 _ (ha b hb); exact ⟨this, this⟩) h0
      have h2 : ∃ u, u < n ∧ rd op e1 e2 ad C u < C u := by
        by_cases h3 : ∃ u, u < n ∧ rd op e1 e2 ad C u < C u
        · exact h3
        · refine absurd (funext fun u => ?_) hf
          rcases Nat.lt_or_ge u n with hu | hu
          · have := rd_le (op := op) (e1 := e1) (e2 := e2) (ad := ad) (C := C) u
            have h4 : ¬ rd op e1 e2 ad C u < C u := fun h => h3 ⟨u, hu, h⟩
            omega
          · exact rd_out hn hu
      have h3 := sm_lt (fun i _ => rd_le (op := op) (e1 := e1) (e2 := e2) (ad := ad) (C := C) i) h2
      have h4 := sm_nonneg h1
      cases N with
      | zero => exact absurd h3 (by omega)
      | succ N =>
        obtain ⟨K, hK⟩ := it_end hm hn ha N (rd op e1 e2 ad C) h1 (by omega)
        refine ⟨K + 1, ?_⟩
        have e := it_add (op := op) (e1 := e1) (e2 := e2) (ad := ad) (C := C) K 1
        rw [show K + 1 = 1 + K by omega, ← e]
        exact hK
/-- how many have not come to their end -/
def uns (C F : Nat → Int) (n : Nat) : Int := sm (fun u => if C u = F u then 0 else 1) n
theorem it_more {n k : Nat} {C F : Nat → Int} (hn : ∀ b, b < 60 → e1 b < n ∧ e2 b < n) (ha : ∀ b, b < 60 → 0 ≤ ad b) (hF : stb pl e1 e2 ad F) (hE : ∃ K, ∀ j, K ≤ j → ∀ u, u < n → it pl e1 e2 ad j C u = F u) (hG : ∀ u, u < n → F u ≤ C u) (hu : ∃ u, u < n ∧ it pl e1 e2 ad k C u ≠ F u) : uns (it pl e1 e2 ad (k + 1) C) F n < uns (it pl e1 e2 ad k C) F n := by
  have g0 := it_ge mon_pl hn hF hG k
  have g1 := it_ge mon_pl hn hF hG (k + 1)
  have hk : ∀ u, u < n → it pl e1 e2 ad k C u = F u → it pl e1 e2 ad (k + 1) C u = F u := fun u hu e => by
    have a1 := g1 u hu
    have a2 := it_le (op := pl) (e1 := e1) (e2 := e2) (ad := ad) (C := C) u k
    omega
  refine sm_lt (fun i hi => ?_) ?_
  · by_cases e : it pl e1 e2 ad k C i = F i
    · rw [if_pos e, if_pos (hk i hi e)]; exact Int.le_refl _
    · rw [if_neg e]; split <;> omega
  · by_cases hx : ∃ u, u < n ∧ it pl e1 e2 ad k C u ≠ F u ∧ it pl e1 e2 ad (k + 1) C u = F u
    · obtain ⟨u, a1, a2, a3⟩ := hx
      refine ⟨u, a1, ?_⟩
      rw [if_neg a2, if_pos a3]
      omega
    · exfalso
      have hs : stb pl e1 e2 ad (fun u => if u < n ∧ it pl e1 e2 ad k C u ≠ F u then F u + 1 else F u) := by
        intro b hb
        have b1 := (hn b hb).1
        have b2 := (hn b hb).2
        have f1 := hF b hb
        have f2 := rd_1 (op := pl) (e1 := e1) (e2 := e2) (ad := ad) (C := it pl e1 e2 ad k C) mon_pl (ha b hb) hb
        simp only [pl_e] at f1 f2
        have f3 : it pl e1 e2 ad k C (e1 b) ≠ F (e1 b) → F (e1 b) < it pl e1 e2 ad (k + 1) C (e1 b) := fun h => by
          have a1 := g1 _ b1
          have a2 : it pl e1 e2 ad (k + 1) C (e1 b) ≠ F (e1 b) := fun e => hx ⟨_, b1, h, e⟩
          omega
        have f4 : it pl e1 e2 ad k C (e2 b) ≠ F (e2 b) → F (e2 b) < it pl e1 e2 ad (k + 1) C (e2 b) := fun h => by
          have a1 := g1 _ b2
          have a2 : it pl e1 e2 ad (k + 1) C (e2 b) ≠ F (e2 b) := fun e => hx ⟨_, b2, h, e⟩
          omega
        have f5 : it pl e1 e2 ad (k + 1) C = rd pl e1 e2 ad (it pl e1 e2 ad k C) := rfl
        rw [f5] at f3 f4
        simp only [pl_e]
        by_cases c1 : it pl e1 e2 ad k C (e1 b) = F (e1 b)
        · rw [if_neg (show ¬ (e1 b < n ∧ it pl e1 e2 ad k C (e1 b) ≠ F (e1 b)) from fun h => h.2 c1)]
          by_cases c2 : it pl e1 e2 ad k C (e2 b) = F (e2 b)
          · rw [if_neg (show ¬ (e2 b < n ∧ it pl e1 e2 ad k C (e2 b) ≠ F (e2 b)) from fun h => h.2 c2)]
            exact f1
          · rw [if_pos (show e2 b < n ∧ it pl e1 e2 ad k C (e2 b) ≠ F (e2 b) from ⟨b2, c2⟩)]
            have := f4 c2
            omega
        · rw [if_pos (show e1 b < n ∧ it pl e1 e2 ad k C (e1 b) ≠ F (e1 b) from ⟨b1, c1⟩)]
          have h3 := f3 c1
          by_cases c2 : it pl e1 e2 ad k C (e2 b) = F (e2 b)
          · rw [if_neg (show ¬ (e2 b < n ∧ it pl e1 e2 ad k C (e2 b) ≠ F (e2 b)) from fun h => h.2 c2)]
            omega
          · rw [if_pos (show e2 b < n ∧ it pl e1 e2 ad k C (e2 b) ≠ F (e2 b) from ⟨b2, c2⟩)]
            omega
      have hg : ∀ u, u < n → (if u < n ∧ it pl e1 e2 ad k C u ≠ F u then F u + 1 else F u) ≤ it pl e1 e2 ad (k + 1) C u := by
        intro u hu
        have a1 := g1 u hu
        by_cases c1 : it pl e1 e2 ad k C u = F u
        · rw [if_neg (fun h => h.2 c1)]; exact a1
        · rw [if_pos ⟨hu, c1⟩]
          have a2 : it pl e1 e2 ad (k + 1) C u ≠ F u := fun e => hx ⟨_, hu, c1, e⟩
          omega
      obtain ⟨K, hK⟩ := hE
      obtain ⟨u, hu, hne⟩ := hu
      have h1 := it_ge mon_pl hn hs hg K u hu
      rw [it_add] at h1
      have h2 := hK (k + 1 + K) (by omega) u hu
      rw [h2] at h1
      try dsimp only at h1
      rw [if_pos ⟨hu, hne⟩] at h1
      omega
theorem min_ex (C : Nat → Int) : ∀ n, 0 < n → ∃ u, u < n ∧ ∀ v, v < n → C u ≤ C v
  | 0, h => absurd h (Nat.lt_irrefl 0)
  | n + 1, _ => by
    rcases Nat.eq_zero_or_pos n with h | h
    · subst h
      exact ⟨0, by omega, fun v hv => by rw [show v = 0 by omega]; exact Int.le_refl _⟩
    · obtain ⟨u, hu, hm⟩ := min_ex C n h
      by_cases hc : C u ≤ C n
      · exact ⟨u, by omega, fun v hv => by
          by_cases e : v = n
          · rw [e]; exact hc
          · exact hm v (by omega)⟩
      · exact ⟨n, by omega, fun v hv => by
          by_cases e : v = n
          · rw [e]; exact Int.le_refl _
          · have := hm v (by omega); omega⟩
/-- after n - 1 rounds nothing changes -/
theorem it_done {n : Nat} {C : Nat → Int} (h0 : 0 < n) (hn : ∀ b, b < 60 → e1 b < n ∧ e2 b < n) (ha : ∀ b, b < 60 → 0 ≤ ad b) (hC : ∀ u, u < n → 0 ≤ C u) : ∀ k, n ≤ k + 1 → stb pl e1 e2 ad (it pl e1 e2 ad k C) := by
  have hsn := sm_nonneg hC
  obtain ⟨K, hK⟩ := it_end mon_pl hn ha (sm C n).toNat C hC (by omega)
  have hE : ∀ j, K ≤ j → it pl e1 e2 ad j C = it pl e1 e2 ad K C := by
    intro j hj
    obtain ⟨i, rfl⟩ : ∃ i, j = K + i := ⟨j - K, by omega⟩
    rw [← it_add, it_stb hK]
  have hle : ∀ k u, it pl e1 e2 ad k C u ≤ C u := by
    intro k u
    induction k with
    | zero => exact Int.le_refl _
    | succ k ih => exact Int.le_trans (it_le u k) ih
  have hun : ∀ k, uns (it pl e1 e2 ad k C) (it pl e1 e2 ad K C) n = 0 ∨ uns (it pl e1 e2 ad k C) (it pl e1 e2 ad K C) n + k ≤ (n : Int) - 1 := by
    intro k
    induction k with
    | zero =>
      refine Or.inr ?_
      obtain ⟨u, hu, hm⟩ := min_ex C n h0
      have e : it pl e1 e2 ad K C u = C u := by
        have a1 := it_ge (ad := ad) (G := fun _ => C u) mon_pl hn (fun b hb => by have := ha b hb; simp only [pl_e]; omega) hm K u hu
        have a2 := hle K u
        try dsimp only at a1
        omega
      have h1 : uns C (it pl e1 e2 ad K C) n < sm (fun _ => (1 : Int)) n := by
        refine sm_lt (fun i _ => by split <;> omega) ⟨u, hu, ?_⟩
        rw [if_pos e.symm]
        omega
      have h2 := sm_le (f := fun _ => (1 : Int)) (A := 1) (B := 1) (N := n) (fun i _ => ⟨Int.le_refl _, Int.le_refl _⟩)
      show uns C (it pl e1 e2 ad K C) n + ((0 : Nat) : Int) ≤ (n : Int) - 1
      omega
    | succ k ih =>
      by_cases hx : ∃ u, u < n ∧ it pl e1 e2 ad k C u ≠ it pl e1 e2 ad K C u
      · have h1 := it_more (k := k) hn ha hK ⟨K, fun j hj u _ => by rw [hE j hj]⟩ (fun u _ => hle K u) hx
        have h2 : 0 ≤ uns (it pl e1 e2 ad (k + 1) C) (it pl e1 e2 ad K C) n := sm_nonneg (fun i _ => by split <;> omega)
        rcases ih with ih | ih
        · omega
        · refine Or.inr ?_
          omega
      · refine Or.inl ?_
        have h3 : ∀ u, u < n → it pl e1 e2 ad k C u = it pl e1 e2 ad K C u := fun u hu => by
          by_cases e : it pl e1 e2 ad k C u = it pl e1 e2 ad K C u
          · exact e
          · exact absurd ⟨u, hu, e⟩ hx
        have h4 : ∀ u, u < n → it pl e1 e2 ad (k + 1) C u = it pl e1 e2 ad K C u := fun u hu => by
          have a1 := it_le (op := pl) (e1 := e1) (e2 := e2) (ad := ad) (C := C) u k
          have a2 := it_ge mon_pl hn hK (fun u _ => hle K u) (k + 1) u hu
          have a3 := h3 u hu
          omega
        have h5 := sm_congr (f := fun u => if it pl e1 e2 ad (k + 1) C u = it pl e1 e2 ad K C u then (0 : Int) else 1) (g := fun _ => 0) (N := n) (fun i hi => if_pos (h4 i hi))
        have h6 := sm_le (f := fun _ => (0 : Int)) (A := 0) (B := 0) (N := n) (fun i _ => ⟨Int.le_refl _, Int.le_refl _⟩)
        show sm _ n = 0
        rw [h5]
        omega
  intro k hk
  have h2 : 0 ≤ uns (it pl e1 e2 ad k C) (it pl e1 e2 ad K C) n := sm_nonneg (fun i _ => by split <;> omega)
  have h3 : uns (it pl e1 e2 ad k C) (it pl e1 e2 ad K C) n = 0 := by
    rcases hun k with h | h
    · exact h
    · omega
  have h4 := sm_zero0 (fun i _ => by split <;> omega) h3
  have h5 : it pl e1 e2 ad k C = it pl e1 e2 ad K C := by
    funext u
    rcases Nat.lt_or_ge u n with hu | hu
    · have := h4 u hu
      try dsimp only at this
      by_cases e : it pl e1 e2 ad k C u = it pl e1 e2 ad K C u
      · exact e
      · rw [if_neg e] at this
        omega
    · rw [it_out hn hu, it_out hn hu]
  rw [h5]
  exact hK
end
