/-! THE LAW CHECKED -/
theorem am_cka_app {M : am_M} {cd : List am_E} : ∀ {l1 l2 : List am_E} {i k : Nat}, l1.length = k → am_cka M cd l1 i = true → am_cka M cd l2 (i + k) = true → am_cka M cd (l1 ++ l2) i = true
  | [], l2, i, k, hk, _, h => by
    have : k = 0 := hk.symm
    subst this
    exact h
  | e :: l1, l2, i, k, hk, h1, h2 => by
    simp only [am_cka, Bool.and_eq_true] at h1
    have hk : l1.length + 1 = k := hk
    have := am_cka_app (l1 := l1) (l2 := l2) (i := i + 1) (k := l1.length) rfl h1.2 (by rw [show i + 1 + l1.length = i + k by omega]; exact h2)
    simp only [List.cons_append, am_cka, Bool.and_eq_true]
    exact ⟨h1.1, this⟩
theorem am_cka_split {M : am_M} {cd l : List am_E} {i : Nat} (k : Nat) (hk : Nat.ble k l.length = true) (h1 : am_cka M cd (l.take k) i = true) (h2 : am_cka M cd (l.drop k) (i + k) = true) : am_cka M cd l i = true := by
  have hk := Nat.le_of_ble_eq_true hk
  have h := am_cka_app (l1 := l.take k) (l2 := l.drop k) (k := k) (by rw [List.length_take]; omega) h1 h2
  rwa [List.take_append_drop] at h
