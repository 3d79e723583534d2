/-! THE MACHINE'S STATES AND THE WORLD -/
def am_n32 (x : Int) : Prop := -2147483648 ≤ x ∧ x ≤ 2147483647
theorem am_n32_toInt (x : Int32) : am_n32 x.toInt := by
  have h1 := Int32.le_toInt x
  have h2 := Int32.toInt_lt x
  constructor <;> omega
theorem am_toInt {x : Int} (h : am_n32 x) : (Int32.ofInt x).toInt = x := Int32.toInt_ofInt_of_le (by have := h.1; omega) (by have := h.2; omega)
theorem am_w32 (z : Int) : w32 z = z.bmod (2 ^ 32) := by
  unfold w32 Int.bmod
  simp only [show ((2 : Nat) ^ 32 : Nat) = 4294967296 from rfl]
  split <;> omega
theorem am_w32_n (z : Int) : am_n32 (w32 z) := by
  unfold w32 am_n32
  omega
theorem am_ofw (z : Int) : Int32.ofInt (w32 z) = Int32.ofInt z := by
  apply Int32.toInt_inj.mp
  rw [am_toInt (am_w32_n z), am_w32, Int32.toInt_ofInt]
theorem am_of_toInt {x : Int} {y : Int32} (h : x = y.toInt) : Int32.ofInt x = y := by rw [h, Int32.ofInt_toInt]
theorem am_lt {x y : Int} (hx : am_n32 x) (hy : am_n32 y) : Int32.ofInt x < Int32.ofInt y ↔ x < y := by
  rw [Int32.lt_iff_toInt_lt, am_toInt hx, am_toInt hy]
theorem am_le {x y : Int} (hx : am_n32 x) (hy : am_n32 y) : Int32.ofInt x ≤ Int32.ofInt y ↔ x ≤ y := by
  rw [Int32.le_iff_toInt_le, am_toInt hx, am_toInt hy]
theorem am_eq {x y : Int} (hx : am_n32 x) (hy : am_n32 y) : Int32.ofInt x = Int32.ofInt y ↔ x = y := by
  constructor
  · intro h
    have := congrArg Int32.toInt h
    rwa [am_toInt hx, am_toInt hy] at this
  · intro h; rw [h]
theorem am_clamp {i : Int} (h : am_n32 i) : (Int32.ofInt i).toNatClampNeg = i.toNat := by
  show (Int32.ofInt i).toInt.toNat = i.toNat
  rw [am_toInt h]
theorem am_in {i : Int} {n : Nat} (h : am_n32 i) (h0 : 0 ≤ i) (h1 : i < n) : vp_in (Int32.ofInt i) n := by
  rintro (q | q)
  · have := (am_lt h (y := 0) (by unfold am_n32; omega)).mp q
    omega
  · rw [am_clamp h] at q
    omega
def am_val (ad q : Nat → Nat) : am_V → Option Value
  | .inl x => some (.int (Int32.ofInt x))
  | .inr (.inl r) => some (va_rf (r.map ad))
  | .inr (.inr (.inl x)) => some (.long (Int64.ofInt x))
  | .inr (.inr (.inr 0)) => none
  | .inr (.inr (.inr (k + 1))) => some (.ref (q (k + 1)))
def am_sv (ad q : Nat → Nat) (v : am_V) (x : Value) : Prop := match am_val ad q v with
  | some y => x = y
  | none => x = .null ∨ ∃ z, x = .ref z
def am_sl (ad q : Nat → Nat) : List am_V → List Value → Prop
  | [], [] => True
  | v :: l, x :: m => am_sv ad q v x ∧ am_sl ad q l m
  | _, _ => False
def am_lv (ad q : Nat → Nat) (v : am_V) : Option Value := if am_nl v = true then am_val ad q v else none
def am_kn (ad q : Nat → Nat) : Nat → List am_V → List (Nat × Value)
  | _, [] => []
  | i, v :: l => match am_lv ad q v with
    | some x => (i, x) :: am_kn ad q (i + 1) l
    | none => am_kn ad q (i + 1) l
theorem am_kn_mem {ad q : Nat → Nat} : ∀ {l : List am_V} {j : Nat} {z : Nat × Value}, z ∈ am_kn ad q j l ↔ ∃ (k : Nat) (v : am_V), z.1 = j + k ∧ am_nth l k = some v ∧ am_lv ad q v = some z.2
  | [], j, z => by
    constructor
    · intro h; cases h
    · rintro ⟨k, v, -, h, -⟩; cases h
  | v :: l, j, z => by
    have ih := am_kn_mem (ad := ad) (q := q) (l := l) (j := j + 1) (z := z)
    constructor
    · intro h
      unfold am_kn at h
      split at h
      · rename_i x hx
        rcases List.mem_cons.mp h with h | h
        · subst h; exact ⟨0, v, rfl, rfl, hx⟩
        · obtain ⟨k, w, h1, h2, h3⟩ := ih.mp h
          exact ⟨k + 1, w, by omega, h2, h3⟩
      · obtain ⟨k, w, h1, h2, h3⟩ := ih.mp h
        exact ⟨k + 1, w, by omega, h2, h3⟩
    · rintro ⟨k, w, h1, h2, h3⟩
      unfold am_kn
      cases k with
      | zero =>
        cases h2
        rw [h3]
        exact List.mem_cons.mpr (Or.inl (Prod.ext h1 rfl))
      | succ k =>
        have h4 := ih.mpr ⟨k, w, by omega, h2, h3⟩
        split
        · exact List.mem_cons_of_mem _ h4
        · exact h4
theorem am_val_cat {ad q : Nat → Nat} {v : am_V} {x : Value} (h : am_lv ad q v = some x) : x.category = 1 := by
  unfold am_lv at h
  split at h
  · rename_i hn
    rcases v with y | (r | (y | k))
    · cases h; rfl
    · cases h; cases r <;> rfl
    · cases hn
    · cases k <;> cases h; rfl
  · cases h
theorem am_nth_set : ∀ {l : List am_V} {k j : Nat} {w v : am_V}, am_nth (am_set l k w) j = some v → (j = k ∧ v = w) ∨ (j ≠ k ∧ am_nth l j = some v)
  | [], _, _, _, _, h => by cases h
  | _ :: l, 0, 0, w, v, h => by cases h; exact Or.inl ⟨rfl, rfl⟩
  | _ :: l, 0, j + 1, w, v, h => Or.inr ⟨by omega, h⟩
  | _ :: l, k + 1, 0, w, v, h => Or.inr ⟨by omega, h⟩
  | _ :: l, k + 1, j + 1, w, v, h => by
    rcases am_nth_set (l := l) (k := k) (j := j) h with ⟨h1, h2⟩ | ⟨h1, h2⟩
    · exact Or.inl ⟨by omega, h2⟩
    · exact Or.inr ⟨by omega, h2⟩
/-- reading a local -/
theorem am_kn_get {ad q : Nat → Nat} {ls : List am_V} {lsA : Array Slot} {nL k : Nat} {v : am_V} {x : Value} (h : lv_has lsA nL (am_kn ad q 0 ls)) (h1 : am_nth ls k = some v) (h2 : am_lv ad q v = some x) : lsA[k]? = some (.val x) :=
  h.2.2 (k, x) (am_kn_mem.mpr ⟨k, v, (Nat.zero_add k).symm, h1, h2⟩)
/-- storing one -/
theorem am_kn_set {ad q : Nat → Nat} {ls : List am_V} {lsA : Array Slot} {nL k : Nat} {w : am_V} {x : Value} (hx : am_lv ad q w = some x ∨ am_lv ad q w = none) (h : lv_has lsA nL ((k, x) :: (am_kn ad q 0 ls).filter (fun z => !(z.1 == k) && !(z.1 + 1 == k && z.2.category == 2)))) : lv_has lsA nL (am_kn ad q 0 (am_set ls k w)) := by
  refine ⟨h.1, h.2.1, fun z hz => h.2.2 z ?_⟩
  obtain ⟨j, v, h1, h2, h3⟩ := am_kn_mem.mp hz
  rw [Nat.zero_add] at h1
  rcases am_nth_set h2 with ⟨e1, e2⟩ | ⟨e1, e2⟩
  · subst e2
    rcases hx with hx | hx
    · refine List.mem_cons.mpr (Or.inl (Prod.ext (h1.trans e1) ?_))
      exact (Option.some.inj (h3.symm.trans hx))
    · rw [hx] at h3; cases h3
  · refine List.mem_cons_of_mem _ (List.mem_filter.mpr ⟨am_kn_mem.mpr ⟨j, v, by rw [Nat.zero_add]; exact h1, e2, h3⟩, ?_⟩)
    have hc : z.2.category = 1 := am_val_cat h3
    have hj : z.1 ≠ k := by rw [h1]; exact e1
    simp [hj, hc]
/-- what a value must be in a heap -/
def am_vk (h : am_H) : am_V → Prop
  | .inl x => am_n32 x
  | .inr (.inl (some a)) => a < hZ h
  | .inr (.inr (.inl x)) => am_n32 x
  | _ => True
def am_hk (h : am_H) : Prop := (∀ a i, am_n32 (rI h a i)) ∧ (∀ a i b, rP h a i = some b → b < hZ h) ∧ ∀ a, (hT h a).2 ≤ 100000
def am_lk2 (h : am_H) (l : List am_V) : Prop := ∀ v ∈ l, am_vk h v
theorem am_vk_up {h h1 : am_H} {v : am_V} (hz : hZ h ≤ hZ h1) (hv : am_vk h v) : am_vk h1 v := by
  rcases v with x | ((_ | a) | (x | k))
  · exact hv
  · trivial
  · exact Nat.lt_of_lt_of_le hv hz
  · exact hv
  · trivial
theorem am_lk_up {h h1 : am_H} {l : List am_V} (hz : hZ h ≤ hZ h1) (hv : am_lk2 h l) : am_lk2 h1 l := fun v m => am_vk_up hz (hv v m)
theorem am_val_up {h : am_H} {ad ad1 q : Nat → Nat} {v : am_V} (hv : am_vk h v) (ha : ∀ k, k < hZ h → ad1 k = ad k) : am_val ad1 q v = am_val ad q v := by
  rcases v with x | ((_ | a) | (x | k))
  · rfl
  · rfl
  · show some (va_rf (some (ad1 a))) = some (va_rf (some (ad a)))
    rw [ha a hv]
  · rfl
  · cases k <;> rfl
theorem am_sl_up {h : am_H} {ad ad1 q : Nat → Nat} (ha : ∀ k, k < hZ h → ad1 k = ad k) : ∀ {l : List am_V} {m : List Value}, am_lk2 h l → am_sl ad q l m → am_sl ad1 q l m
  | [], [], _, _ => trivial
  | [], _ :: _, _, hs => hs.elim
  | _ :: _, [], _, hs => hs.elim
  | v :: l, x :: m, hl, hs => by
    refine ⟨?_, am_sl_up ha (fun w hw => hl w (List.mem_cons_of_mem _ hw)) hs.2⟩
    have h1 := hs.1
    unfold am_sv at h1 ⊢
    rw [am_val_up (hl v List.mem_cons_self) ha]
    exact h1
theorem am_kn_up {h : am_H} {ad ad1 q : Nat → Nat} (ha : ∀ k, k < hZ h → ad1 k = ad k) : ∀ {l : List am_V} (j : Nat), am_lk2 h l → am_kn ad1 q j l = am_kn ad q j l
  | [], _, _ => rfl
  | v :: l, j, hl => by
    have ih := am_kn_up (q := q) ha (j + 1) (l := l) (fun w hw => hl w (List.mem_cons_of_mem _ hw))
    have h1 : am_lv ad1 q v = am_lv ad q v := by
      unfold am_lv
      rw [am_val_up (hl v List.mem_cons_self) ha]
    unfold am_kn
    rw [h1, ih]
/-- what lies at a place -/
def am_e (ad : Nat → Nat) (ys : Nat → ClassId) (h : am_H) (k : Nat) : va_E :=
  if (hT h k).1 = 0 then .inr ((hT h k).2, (List.range (am_N (hT h k).2)).map fun j => if am_ir (hT h k).2 j = true then va_rf ((rP h k j).map ad) else .int (Int32.ofInt (rI h k j)))
  else if (hT h k).1 ≤ 3 then .inl (ys (hT h k).1, (hT h k).2, .inl fun j => Int32.ofInt (rI h k j))
  else if (hT h k).1 = 4 then .inl (ys (hT h k).1, (hT h k).2, .inr (.inl fun j => Int64.ofInt (rI h k j)))
  else .inl (ys (hT h k).1, (hT h k).2, .inr (.inr (.inr (.inr fun j => (rP h k j).map ad))))
def am_w (ad : Nat → Nat) (ys : Nat → ClassId) (h : am_H) : va_W := (List.range (hZ h)).map fun k => (ad k, am_e ad ys h k)
theorem am_w_get {ad : Nat → Nat} {ys : Nat → ClassId} {h : am_H} {k : Nat} (hk : k < hZ h) : (am_w ad ys h)[k]? = some (ad k, am_e ad ys h k) := by
  unfold am_w
  rw [List.getElem?_map, List.getElem?_range hk]
  rfl
theorem am_e_same {ad ad1 : Nat → Nat} {ys : Nat → ClassId} {h h1 : am_H} {k : Nat} (hh : am_hk h) (ha : ∀ k, k < hZ h → ad1 k = ad k) (hT1 : hT h1 k = hT h k) (hI : ∀ j, rI h1 k j = rI h k j) (hP : ∀ j, rP h1 k j = rP h k j) : am_e ad1 ys h1 k = am_e ad ys h k := by
  have e : ∀ j, (rP h k j).map ad1 = (rP h k j).map ad := by
    intro j
    cases hp : rP h k j with
    | none => rfl
    | some b => show some (ad1 b) = some (ad b); rw [ha b (hh.2.1 k j b hp)]
  unfold am_e
  simp only [hT1, hI, hP, e]
theorem am_w_set {ad : Nat → Nat} {ys : Nat → ClassId} {h h1 : am_H} {k : Nat} (hk : k < hZ h) (hz : hZ h1 = hZ h) (he : ∀ j, j ≠ k → am_e ad ys h1 j = am_e ad ys h j) : (am_w ad ys h).set k (ad k, am_e ad ys h1 k) = am_w ad ys h1 := by
  apply List.ext_getElem?
  intro j
  rw [List.getElem?_set]
  unfold am_w
  simp only [List.length_map, List.length_range, List.getElem?_map, hz]
  by_cases hj : k = j
  · subst hj
    simp [hk]
  · simp only [if_neg hj]
    by_cases hl : j < hZ h
    · rw [List.getElem?_range hl]
      simp [he j (fun e => hj e.symm)]
    · have : (List.range (hZ h))[j]? = none := by simp; omega
      rw [this]
      rfl
theorem am_w_push {ad ad1 : Nat → Nat} {ys : Nat → ClassId} {h h1 : am_H} (hz : hZ h1 = hZ h + 1) (ha : ∀ k, k < hZ h → ad1 k = ad k) (he : ∀ k, k < hZ h → am_e ad1 ys h1 k = am_e ad ys h k) : am_w ad ys h ++ [(ad1 (hZ h), am_e ad1 ys h1 (hZ h))] = am_w ad1 ys h1 := by
  unfold am_w
  rw [hz, List.range_succ, List.map_append]
  congr 1
  apply List.map_congr_left
  intro k hk
  have hk := List.mem_range.mp hk
  rw [ha k hk, he k hk]
theorem am_w_more {ad ad1 : Nat → Nat} {ys : Nat → ClassId} {h h1 : am_H} (n : Nat) (hz : hZ h1 = hZ h + n) (ha : ∀ k, k < hZ h → ad1 k = ad k) (he : ∀ k, k < hZ h → am_e ad1 ys h1 k = am_e ad ys h k) : am_w ad ys h ++ (List.range n).map (fun i => (ad1 (hZ h + i), am_e ad1 ys h1 (hZ h + i))) = am_w ad1 ys h1 := by
  unfold am_w
  rw [hz, List.range_add, List.map_append, List.map_map]
  congr 1
  apply List.map_congr_left
  intro k hk
  have hk := List.mem_range.mp hk
  rw [ha k hk, he k hk]
