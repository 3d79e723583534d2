/-! THE NUMBERS OF A HEAP AS ONE FUNCTION -/
abbrev am_I : Type := Nat → Nat → Int
def hI (h : am_H) (I : am_I) : am_H := (h.1, h.2.1, h.2.2.1, h.2.2.2.1, I, h.2.2.2.2.2)
theorem hI_self (h : am_H) : hI h h.2.2.2.2.1 = h := rfl
theorem hI_hI (h : am_H) (I J : am_I) : hI (hI h I) J = hI h J := rfl
theorem hT_hI (h : am_H) (I : am_I) (a : Nat) : hT (hI h I) a = hT h a := rfl
theorem rP_hI (h : am_H) (I : am_I) (a j : Nat) : rP (hI h I) a j = rP h a j := rfl
theorem rI_hI (h : am_H) (I : am_I) (a j : Nat) : rI (hI h I) a j = I a j := rfl
theorem hZ_hI (h : am_H) (I : am_I) : hZ (hI h I) = hZ h := rfl
theorem hC_hI (h : am_H) (I : am_I) : hC (hI h I) = hC h := rfl
theorem hS_hI (h : am_H) (I : am_I) : hS (hI h I) = hS h := rfl
theorem wI_hI (h : am_H) (I : am_I) (a j : Nat) (v : Int) : wI (hI h I) a j v = hI h (am_u2 I a j v) := rfl
theorem cpI_hI (h : am_H) (I : am_I) (a sp b dp n : Nat) : cpI (hI h I) a sp b dp n = hI h (am_cpf I a sp b dp n) := rfl
theorem u2_same {I : am_I} {a j : Nat} {v : Int} : am_u2 I a j v a j = v := by simp [am_u2]
theorem u2_a {I : am_I} {a j b i : Nat} {v : Int} (h : b ≠ a) : am_u2 I a j v b i = I b i := by simp [am_u2, h]
theorem u2_j {I : am_I} {a j b i : Nat} {v : Int} (h : i ≠ j) : am_u2 I a j v b i = I b i := by simp [am_u2, h]
theorem w32_id {z : Int} (h0 : -2147483648 ≤ z) (h1 : z ≤ 2147483647) : w32 z = z := by unfold w32; omega
theorem w32_succ {n : Nat} (h : n < 2147483647) : w32 ((n : Int) + 1) = ((n + 1 : Nat) : Int) := by unfold w32; omega
section
variable {h : am_H} {I : am_I} {ci j a n t : Nat} {p : Option Nat} {i v : Int}
theorem e_gfP {k : Option Nat → am_R} (ht : hT h a = (0, ci)) (hp : rP h a j = p) : gfP ci j (hI h I) (some a) k = k p := by
  show (if hT h a = (0, ci) then k (rP h a j) else none) = _
  rw [if_pos ht, hp]
theorem e_gfI {k : Int → am_R} (ht : hT h a = (0, ci)) : gfI ci j (hI h I) (some a) k = k (I a j) := if_pos ht
theorem e_pfI {k : am_H → am_R} (ht : hT h a = (0, ci)) : pfI 0 ci j (hI h I) (some a) v k = k (hI h (am_u2 I a j v)) := if_pos ⟨ht, fun h => by cases h⟩
theorem e_pfZ {k : am_H → am_R} (ht : hT h a = (0, ci)) (hv : v = 0 ∨ v = 1) : pfI 1 ci j (hI h I) (some a) v k = k (hI h (am_u2 I a j v)) := if_pos ⟨ht, fun _ => hv⟩
theorem e_ldA {k : Int → am_R} (ht : hT h a = (t, n)) (h0 : 0 ≤ i) (h1 : i < n) : ldA t (hI h I) (some a) i k = k (I a i.toNat) := if_pos (by rw [hT_hI, ht]; exact ⟨rfl, h0, h1⟩)
theorem e_stA {k : am_H → am_R} (ht : hT h a = (t, n)) (h0 : 0 ≤ i) (h1 : i < n) : stA t (hI h I) (some a) i v k = k (hI h (am_u2 I a i.toNat v)) := if_pos (by rw [hT_hI, ht]; exact ⟨rfl, h0, h1⟩)
theorem e_ldB {k : Int → am_R} (ht : hT h a = (2, n)) (h0 : 0 ≤ i) (h1 : i < n) : ldB (hI h I) (some a) i k = k (I a i.toNat) := if_pos (by rw [hT_hI, ht]; exact ⟨Or.inl rfl, h0, h1⟩)
theorem e_ldY {k : Int → am_R} (ht : hT h a = (3, n)) (h0 : 0 ≤ i) (h1 : i < n) : ldB (hI h I) (some a) i k = k (I a i.toNat) := if_pos (by rw [hT_hI, ht]; exact ⟨Or.inr rfl, h0, h1⟩)
theorem e_stB {k : am_H → am_R} (ht : hT h a = (2, n)) (h0 : 0 ≤ i) (h1 : i < n) (hv : v = 0 ∨ v = 1) : stB (hI h I) (some a) i v k = k (hI h (am_u2 I a i.toNat v)) := if_pos (by rw [hT_hI, ht]; exact ⟨Or.inl ⟨rfl, hv⟩, h0, h1⟩)
theorem e_stY {k : am_H → am_R} (ht : hT h a = (3, n)) (h0 : 0 ≤ i) (h1 : i < n) (hv : -128 ≤ v ∧ v ≤ 127) : stB (hI h I) (some a) i v k = k (hI h (am_u2 I a i.toNat v)) := if_pos (by rw [hT_hI, ht]; exact ⟨Or.inr ⟨rfl, hv⟩, h0, h1⟩)
theorem e_ldP {k : Option Nat → am_R} (ht : hT h a = (t, n)) (h0 : 0 ≤ i) (h1 : i < n) : ldP t (hI h I) (some a) i k = k (rP h a i.toNat) := if_pos (by rw [hT_hI, ht]; exact ⟨rfl, h0, h1⟩)
theorem e_lenA {k : Int → am_R} (ht : hT h a = (t, n)) (h0 : 1 ≤ t) (h1 : t ≤ 6) : lenA (hI h I) (some a) k = k n := by
  show (if 1 ≤ (hT h a).1 ∧ (hT h a).1 ≤ 6 then k (hT h a).2 else none) = _
  rw [ht, if_pos ⟨h0, h1⟩]
theorem e_rcv {k : am_R} (ht : hT h a = (0, ci)) : am_rcv ci (hI h I) (Vr (some a)) k = k := if_pos ht
theorem e_cpA {k : am_H → am_R} {b m sp dp z : Nat} (ha : hT h a = (1, n)) (hb : hT h b = (1, m)) (h1 : sp + z ≤ n) (h2 : dp + z ≤ m) : cpA (hI h I) (some a) (sp : Int) (some b) (dp : Int) (z : Int) k = k (hI h (am_cpf I a sp b dp z)) := by
  show (if (hT h a).1 = 1 ∧ (hT h b).1 = 1 ∧ 0 ≤ (sp : Int) ∧ 0 ≤ (dp : Int) ∧ 0 ≤ (z : Int) ∧ (sp : Int) + z ≤ (hT h a).2 ∧ (dp : Int) + z ≤ (hT h b).2 then k (cpI (hI h I) a (sp : Int).toNat b (dp : Int).toNat (z : Int).toNat) else none) = _
  rw [ha, hb, if_pos (by refine ⟨rfl, rfl, ?_, ?_, ?_, ?_, ?_⟩ <;> omega)]
  simp only [Int.toNat_natCast]
  rfl
end
theorem e_clI {x : Nat → am_H → am_R} {k : Int → am_H → am_R} {v : Int} {h : am_H} : clI (some (.inl (Vi v), h)) x k = k v h := rfl
theorem e_clP {x : Nat → am_H → am_R} {k : Option Nat → am_H → am_R} {v : Option Nat} {h : am_H} : clP (some (.inl (Vr v), h)) x k = k v h := rfl
theorem e_clV {x : Nat → am_H → am_R} {k : am_H → am_R} {v : am_V} {h : am_H} : clV (some (.inl v, h)) x k = k h := rfl
theorem e_clIx {x : Nat → am_H → am_R} {k : Int → am_H → am_R} {e : Nat} {h : am_H} : clI (some (.inr e, h)) x k = x e h := rfl
theorem e_clPx {x : Nat → am_H → am_R} {k : Option Nat → am_H → am_R} {e : Nat} {h : am_H} : clP (some (.inr e, h)) x k = x e h := rfl
theorem e_clVx {x : Nat → am_H → am_R} {k : am_H → am_R} {e : Nat} {h : am_H} : clV (some (.inr e, h)) x k = x e h := rfl
theorem e_xt {e : Nat} {h : am_H} : am_xt e h = some (.inr e, h) := rfl
theorem e_ret0 {x : Int} {h : am_H} : am_ret 0 x h = some (.inl (Vi x), h) := rfl
theorem e_ret1 {x : Int} {h : am_H} (hx : x = 0 ∨ x = 1) : am_ret 1 x h = some (.inl (Vi x), h) := by
  show (if x = 0 ∨ x = 1 then some (.inl (Vi x), h) else none : am_R) = _
  rw [if_pos hx]
/-! LOOPS THAT COUNT -/
def fo {α : Type} (f : Nat → α → α) : Nat → α → α
  | 0, s => s
  | n + 1, s => f n (fo f n s)
theorem fo_run {α : Type} {F : Nat → α → am_R} {f : Nat → α → α} {P : Nat → α → Prop} {N : Nat} {s0 : α} (h0 : P 0 s0) (hs : ∀ i s, i < N → P i s → F i s = F (i + 1) (f i s) ∧ P (i + 1) (f i s)) : F 0 s0 = F N (fo f N s0) ∧ P N (fo f N s0) := by
  have h : ∀ k, k ≤ N → F 0 s0 = F k (fo f k s0) ∧ P k (fo f k s0) := by
    intro k
    induction k with
    | zero => exact fun _ => ⟨rfl, h0⟩
    | succ k ih =>
      intro hk
      obtain ⟨a, b⟩ := ih (by omega)
      obtain ⟨c, d⟩ := hs k _ (by omega) b
      exact ⟨a.trans c, d⟩
  exact h N (Nat.le_refl N)
/-- the same with no condition -/
theorem fo_run0 {α : Type} {F : Nat → α → am_R} {f : Nat → α → α} {N : Nat} {s0 : α} (hs : ∀ i s, i < N → F i s = F (i + 1) (f i s)) : F 0 s0 = F N (fo f N s0) :=
  (fo_run (P := fun _ _ => True) trivial (fun i s hi _ => ⟨hs i s hi, trivial⟩)).1
theorem fo_inv {α : Type} {f : Nat → α → α} {P : Nat → α → Prop} {s0 : α} (h0 : P 0 s0) : ∀ {N : Nat}, (∀ i s, i < N → P i s → P (i + 1) (f i s)) → P N (fo f N s0)
  | 0, _ => h0
  | N + 1, hs => hs N _ (Nat.lt_succ_self N) (fo_inv h0 (fun i s hi => hs i s (by omega)))
theorem fo_congr {α : Type} {f g : Nat → α → α} {s0 : α} : ∀ {N : Nat}, (∀ i s, i < N → f i s = g i s) → fo f N s0 = fo g N s0
  | 0, _ => rfl
  | N + 1, hs => by
    show f N (fo f N s0) = g N (fo g N s0)
    rw [fo_congr (g := g) (fun i s hi => hs i s (by omega)), hs N _ (Nat.lt_succ_self N)]
/-- two loops side by side -/
theorem fo_rel {α β : Type} {f : Nat → α → α} {g : Nat → β → β} {P : Nat → α → β → Prop} {s : α} {t : β} (h0 : P 0 s t) : ∀ {N : Nat}, (∀ i s t, i < N → P i s t → P (i + 1) (f i s) (g i t)) → P N (fo f N s) (fo g N t)
  | 0, _ => h0
  | N + 1, hs => hs N _ _ (Nat.lt_succ_self N) (fo_rel h0 (fun i s t hi => hs i s t (by omega)))
/-- sums -/
def sm (f : Nat → Int) : Nat → Int
  | 0 => 0
  | n + 1 => sm f n + f n
theorem sm_congr {f g : Nat → Int} : ∀ {N : Nat}, (∀ i, i < N → f i = g i) → sm f N = sm g N
  | 0, _ => rfl
  | N + 1, hs => by
    show sm f N + f N = sm g N + g N
    rw [sm_congr (g := g) (fun i hi => hs i (by omega)), hs N (Nat.lt_succ_self N)]
theorem sm_le {f : Nat → Int} {A B : Int} : ∀ {N : Nat}, (∀ i, i < N → A ≤ f i ∧ f i ≤ B) → A * N ≤ sm f N ∧ sm f N ≤ B * N
  | 0, _ => by constructor <;> simp [sm]
  | N + 1, hs => by
    have ih := sm_le (N := N) (fun i hi => hs i (by omega))
    have h1 := hs N (Nat.lt_succ_self N)
    show A * ((N + 1 : Nat) : Int) ≤ sm f N + f N ∧ sm f N + f N ≤ B * ((N + 1 : Nat) : Int)
    rw [Int.natCast_add, Int.mul_add, Int.mul_add]
    omega
/-- a loop that sums: at i the sum of what lies ahead -/
theorem sm_run {F : Nat → Int → am_R} {f : Nat → Int} {N : Nat} (hs : ∀ i, i < N → F i (sm f i) = F (i + 1) (sm f i + f i)) : F 0 0 = F N (sm f N) := by
  have h : ∀ k, k ≤ N → F 0 0 = F k (sm f k) := by
    intro k
    induction k with
    | zero => exact fun _ => rfl
    | succ k ih => exact fun hk => (ih (by omega)).trans (hs k (by omega))
  exact h N (Nat.le_refl N)
