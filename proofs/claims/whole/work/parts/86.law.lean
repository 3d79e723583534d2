/-! THE LAW: one list of codes, read by both -/
def bigL : Int := 2147483648
/-- what a fact is -/
def fW (w : am_Wd) (b : Nat) (c n : Int) : Int :=
  if c = 0 then (b : Int) else if c = 1 then w (7 + 5 * b + 1) else if c = 2 then w (7 + 5 * b + 2) else if c = 3 then ((lc b % 6 : Nat) : Int) else if c = 4 then ((lc b / 6 : Nat) : Int) else if c = 5 then w 3 % 100 else if c = 6 then w (7 + 5 * b + 3) else if c = 7 then w (7 + 5 * b + 4) else if c = 8 then (if b < 30 then 0 else 1) else n
def o2 (c x y : Int) : Int := if c = 10 then x + y else if c = 11 then (if x < y then 1 else 0) else if c = 12 then (if y < x then 1 else 0) else if c = 14 then (if x + y = 2 then 1 else 0) else (if 0 < x + y then 1 else 0)
def s1 (w : am_Wd) (b : Nat) (c n : Int) (s : List Int) : List Int :=
  if c ≤ 9 then fW w b c n :: s else if c = 13 then (match s with
    | x :: r => (1 - x) :: r
    | [] => []) else (match s with
    | y :: x :: r => o2 c x y :: r
    | r => r)
def sF (w : am_Wd) (b st : Nat) : Nat → List Int
  | 0 => []
  | k + 1 => s1 w b (w (680 + 2 * (st + k))) (w (681 + 2 * (st + k))) (sF w b st k)
/-- the kinds of what lies there: a number or a truth -/
def t1 (c n : Int) (ts : List Bool) : Option (List Bool) :=
  if 0 ≤ c ∧ c ≤ 5 then some (false :: ts) else if c = 9 then (if 0 ≤ n ∧ n ≤ 999 then some (false :: ts) else none) else if 6 ≤ c ∧ c ≤ 8 then some (true :: ts) else if c = 10 then (match ts with
    | false :: false :: r => some (false :: r)
    | _ => none) else if c = 11 ∨ c = 12 then (match ts with
    | false :: false :: r => some (true :: r)
    | _ => none) else if c = 13 then (match ts with
    | true :: r => some (true :: r)
    | _ => none) else if c = 14 ∨ c = 15 then (match ts with
    | true :: true :: r => some (true :: r)
    | _ => none) else none
def tF (w : am_Wd) (st : Nat) : Nat → Option (List Bool)
  | 0 => some []
  | k + 1 => match tF w st k with
    | some ts => if ts.length ≤ 31 then t1 (w (680 + 2 * (st + k))) (w (681 + 2 * (st + k))) ts else none
    | none => none
def ho (s : List Int) : Bool := match s with
  | [] => true
  | x :: _ => decide (x = 1)
def hoW (w : am_Wd) (ln b : Nat) : Bool := ho (sF w b (w (634 + 4 * ln)).toNat ((w (635 + 4 * ln)).toNat - (w (634 + 4 * ln)).toNat))
def laW (w : am_Wd) (k : Int) (b : Nat) : Int := sm (fun ln => if w (632 + 4 * ln) = k ∧ hoW w ln b = true then w (633 + 4 * ln) else 0) (w 631).toNat
def grW (w : am_Wd) (b : Nat) : Int := if w (7 + 5 * b + 4) = 1 then 0 else if w 2 = 0 then 1 else laW w 0 b - laW w 1 b
def srW (w : am_Wd) (b : Nat) : Int := if w (7 + 5 * b) = 1 ∧ w 2 = 1 then laW w 2 b else 0
/-- the class's code of one -/
def tr (c n : Int) : Int := if c ≤ 8 then -17 - c else if c = 9 then n else if c = 13 then -26 else if c = 10 then -27 else if c = 11 then -28 else if c = 12 then -29 else if c = 14 then -30 else -31
def WL (w : am_Wd) (ln cc : Nat) : Prop := w 631 = ln ∧ ln ≤ 12 ∧ cc ≤ 400 ∧ ∀ k, k < ln → (0 ≤ w (632 + 4 * k) ∧ w (632 + 4 * k) ≤ 2) ∧ (0 ≤ w (633 + 4 * k) ∧ w (633 + 4 * k) ≤ 60) ∧ ∃ s e : Nat, w (634 + 4 * k) = s ∧ w (635 + 4 * k) = e ∧ s ≤ e ∧ e ≤ cc ∧ (tF w s (e - s) = some [] ∨ tF w s (e - s) = some [true])
/-- values of the kinds -/
def vT : List Bool → List Int → Prop
  | [], [] => True
  | true :: ts, x :: s => (x = 0 ∨ x = 1) ∧ vT ts s
  | false :: ts, x :: s => 0 ≤ x ∧ vT ts s
  | _, _ => False
def lsum : List Int → Int
  | [] => 0
  | x :: s => x + lsum s
theorem vT_len : ∀ {ts : List Bool} {s : List Int}, vT ts s → s.length = ts.length
  | [], [], _ => rfl
  | true :: _, _ :: _, h => congrArg (· + 1) (vT_len h.2)
  | false :: _, _ :: _, h => congrArg (· + 1) (vT_len h.2)
theorem vT_pos : ∀ {ts : List Bool} {s : List Int}, vT ts s → 0 ≤ lsum s
  | [], [], _ => Int.le_refl 0
  | true :: _, x :: s, h => by
    have := vT_pos h.2
    show 0 ≤ x + lsum s
    have := h.1
    omega
  | false :: _, x :: s, h => by
    have := vT_pos h.2
    show 0 ≤ x + lsum s
    have := h.1
    omega
theorem fW_b {w : am_Wd} (V : WW w) {b : Nat} (hb : b < 60) {c n : Int} (hc : 0 ≤ c ∧ c ≤ 9) (hn : c = 9 → 0 ≤ n ∧ n ≤ 999) : (0 ≤ fW w b c n ∧ fW w b c n ≤ 999) ∧ (6 ≤ c → c ≤ 8 → fW w b c n = 0 ∨ fW w b c n = 1) := by
  have hv := V.fe hb
  have hl := lc_lt b hb
  unfold fW
  have h9 : c = 0 ∨ c = 1 ∨ c = 2 ∨ c = 3 ∨ c = 4 ∨ c = 5 ∨ c = 6 ∨ c = 7 ∨ c = 8 ∨ c = 9 := by omega
  rcases h9 with rfl | rfl | rfl | rfl | rfl | rfl | rfl | rfl | rfl | rfl
  all_goals simp only [Int.reduceEq, reduceIte]
  · omega
  · omega
  · omega
  · omega
  · omega
  · omega
  · omega
  · omega
  · split <;> omega
  · have := hn rfl
    omega
theorem o2_b {c x y : Int} (hc : c = 11 ∨ c = 12 ∨ c = 14 ∨ c = 15) : o2 c x y = 0 ∨ o2 c x y = 1 := by
  unfold o2
  rcases hc with rfl | rfl | rfl | rfl
  all_goals
    simp only [Int.reduceEq, reduceIte]
    split <;> simp
/-- a step keeps the kinds, and the sum grows by 999 at most -/
theorem s1_ok {w : am_Wd} (V : WW w) {b : Nat} (hb : b < 60) {c n : Int} {ts ts2 : List Bool} {s : List Int} (ht : t1 c n ts = some ts2) (hs : vT ts s) : vT ts2 (s1 w b c n s) ∧ lsum (s1 w b c n s) ≤ lsum s + 999 := by
  unfold t1 at ht
  unfold s1
  by_cases h1 : 0 ≤ c ∧ c ≤ 5
  · rw [if_pos h1] at ht
    cases ht
    rw [if_pos (by omega)]
    have hf := fW_b V hb (c := c) (n := n) (by omega) (by omega)
    exact ⟨⟨hf.1.1, hs⟩, (by show fW w b c n + lsum s ≤ _; omega)⟩
  rw [if_neg h1] at ht
  by_cases h2 : c = 9
  · rw [if_pos h2] at ht
    by_cases h3 : 0 ≤ n ∧ n ≤ 999
    · rw [if_pos h3] at ht
      cases ht
      rw [if_pos (by omega)]
      have hf := fW_b V hb (c := c) (n := n) (by omega) (fun _ => h3)
      exact ⟨⟨hf.1.1, hs⟩, (by show fW w b c n + lsum s ≤ _; omega)⟩
    · rw [if_neg h3] at ht
      cases ht
  rw [if_neg h2] at ht
  by_cases h4 : 6 ≤ c ∧ c ≤ 8
  · rw [if_pos h4] at ht
    cases ht
    rw [if_pos (by omega)]
    have hf := fW_b V hb (c := c) (n := n) (by omega) (by omega)
    exact ⟨⟨hf.2 h4.1 h4.2, hs⟩, (by show fW w b c n + lsum s ≤ _; omega)⟩
  rw [if_neg h4] at ht
  by_cases h5 : c = 10
  · subst h5
    rw [if_pos rfl] at ht
    rw [if_neg (by decide), if_neg (by decide)]
    match ts, s, hs, ht with
    | false :: false :: r, y :: x :: q, hs, ht =>
      cases ht
      have := hs.1
      have := hs.2.1
      exact ⟨⟨(by show 0 ≤ x + y; omega), hs.2.2⟩, (by show x + y + lsum q ≤ y + (x + lsum q) + 999; omega)⟩
  rw [if_neg h5] at ht
  by_cases h6 : c = 11 ∨ c = 12
  · rw [if_pos h6] at ht
    rw [if_neg (by omega), if_neg (by omega)]
    match ts, s, hs, ht with
    | false :: false :: r, y :: x :: q, hs, ht =>
      cases ht
      have := hs.1
      have := hs.2.1
      have h7 := o2_b (c := c) (x := x) (y := y) (by omega)
      exact ⟨⟨h7, hs.2.2⟩, (by show o2 c x y + lsum q ≤ y + (x + lsum q) + 999; omega)⟩
  rw [if_neg h6] at ht
  by_cases h8 : c = 13
  · subst h8
    rw [if_pos rfl] at ht
    rw [if_neg (by decide), if_pos rfl]
    match ts, s, hs, ht with
    | true :: r, x :: q, hs, ht =>
      cases ht
      have := hs.1
      exact ⟨⟨(by omega), hs.2⟩, (by show 1 - x + lsum q ≤ x + lsum q + 999; omega)⟩
  rw [if_neg h8] at ht
  by_cases h9 : c = 14 ∨ c = 15
  · rw [if_pos h9] at ht
    rw [if_neg (by omega), if_neg h8]
    match ts, s, hs, ht with
    | true :: true :: r, y :: x :: q, hs, ht =>
      cases ht
      have := hs.1
      have := hs.2.1
      have h7 := o2_b (c := c) (x := x) (y := y) (by omega)
      exact ⟨⟨h7, hs.2.2⟩, (by show o2 c x y + lsum q ≤ y + (x + lsum q) + 999; omega)⟩
  rw [if_neg h9] at ht
  cases ht
theorem tF_step {w : am_Wd} {st k : Nat} {ts2 : List Bool} (h : tF w st (k + 1) = some ts2) : ∃ ts, tF w st k = some ts ∧ ts.length ≤ 31 ∧ t1 (w (680 + 2 * (st + k))) (w (681 + 2 * (st + k))) ts = some ts2 := by
  unfold tF at h
  cases e : tF w st k with
  | none => rw [e] at h; cases h
  | some ts =>
    rw [e] at h
    dsimp only at h
    by_cases h1 : ts.length ≤ 31
    · rw [if_pos h1] at h
      exact ⟨ts, rfl, h1, h⟩
    · rw [if_neg h1] at h
      cases h
theorem tF_pre {w : am_Wd} {st : Nat} : ∀ {n k : Nat} {ts : List Bool}, tF w st n = some ts → k ≤ n → ∃ ts2, tF w st k = some ts2
  | 0, k, ts, h, hk => by
    obtain rfl : k = 0 := by omega
    exact ⟨ts, h⟩
  | n + 1, k, ts, h, hk => by
    by_cases hn : k = n + 1
    · subst hn
      exact ⟨ts, h⟩
    · obtain ⟨t2, h2, -⟩ := tF_step h
      exact tF_pre h2 (by omega)
theorem sF_ok {w : am_Wd} (V : WW w) {b st : Nat} (hb : b < 60) : ∀ {k : Nat} {ts : List Bool}, tF w st k = some ts → vT ts (sF w b st k) ∧ lsum (sF w b st k) ≤ 999 * k
  | 0, ts, h => by
    cases h
    exact ⟨trivial, Int.le_refl 0⟩
  | k + 1, ts, h => by
    obtain ⟨t2, h2, -, h3⟩ := tF_step h
    have ih := sF_ok V hb h2
    have := s1_ok V hb h3 ih.1
    refine ⟨this.1, ?_⟩
    show lsum (s1 w b _ _ (sF w b st k)) ≤ _
    omega
/-- the stack as a row -/
def Sk (A : Nat → Int) : List Int → Prop
  | [] => True
  | x :: r => A r.length = x ∧ Sk A r
theorem Sk_up {I : am_I} {a k : Nat} {v : Int} : ∀ {s : List Int}, s.length ≤ k → Sk (I a) s → Sk (am_u2 I a k v a) s
  | [], _, _ => trivial
  | x :: r, h, hs => ⟨(u2_j (by simp only [List.length_cons] at h; omega)).trans hs.1, Sk_up (by simp only [List.length_cons] at h; omega) hs.2⟩
theorem Sk_push {I : am_I} {a : Nat} {v : Int} {s : List Int} (h : Sk (I a) s) : Sk (am_u2 I a s.length v a) (v :: s) := ⟨u2_same, Sk_up (Nat.le_refl _) h⟩
