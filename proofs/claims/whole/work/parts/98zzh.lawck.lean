/-! THE LAW CHECKED -/
theorem am_cka_app {M : am_M} {cd : List am_E} : ∀ {l1 l2 : List am_E} {i k : Nat}, l1.length = k → am_cka M cd l1 i = true → am_cka M cd l2 (i + k) = true → am_cka M cd (l1 ++ l2) i = true
  | [], l2, i, k, hk, _, h => by
    have : k = 0 := hk.symm
    subst this
    exact h
  | e :: l1, l2, i, k, hk, h1, h2 => by
    simp only [am_cka, Bool.and_eq_true] at h1
    have hk : l1.length + 1 = k := hk
    have := am_cka_app (l1 := l1) (l2 := l2) (i := i + 1) (k := l1.length) rfl h1.2 (by rw [show i + 1 + l1.length = i + k by omega]; exact h2)
    simp only [List.cons_append, am_cka, Bool.and_eq_true]
    exact ⟨h1.1, this⟩
theorem am_cka_split {M : am_M} {cd l : List am_E} {i : Nat} (k : Nat) (hk : Nat.ble k l.length = true) (h1 : am_cka M cd (l.take k) i = true) (h2 : am_cka M cd (l.drop k) (i + k) = true) : am_cka M cd l i = true := by
  have hk := Nat.le_of_ble_eq_true hk
  have h := am_cka_app (l1 := l.take k) (l2 := l.drop k) (k := k) (by rw [List.length_take]; omega) h1 h2
  rwa [List.take_append_drop] at h
theorem am_kl_0_0 : am_cka (am_mt mL_law_) cd_L_law_ (cd_L_law__0.take 40) 0 = true := by decide +kernel
theorem am_kl_0_1 : am_cka (am_mt mL_law_) cd_L_law_ ((cd_L_law__0.drop 40).take 40) 40 = true := by decide +kernel
theorem am_kl_0_2 : am_cka (am_mt mL_law_) cd_L_law_ (((cd_L_law__0.drop 40).drop 40).take 40) 80 = true := by decide +kernel
theorem am_kl_0_3 : am_cka (am_mt mL_law_) cd_L_law_ ((((cd_L_law__0.drop 40).drop 40).drop 40).take 40) 120 = true := by decide +kernel
theorem am_kl_0_4 : am_cka (am_mt mL_law_) cd_L_law_ ((((cd_L_law__0.drop 40).drop 40).drop 40).drop 40) 160 = true := by decide +kernel
theorem am_kl_0 : am_cka (am_mt mL_law_) cd_L_law_ cd_L_law__0 0 = true := am_cka_split 40 (by decide +kernel) am_kl_0_0 (am_cka_split 40 (by decide +kernel) am_kl_0_1 (am_cka_split 40 (by decide +kernel) am_kl_0_2 (am_cka_split 40 (by decide +kernel) am_kl_0_3 (am_kl_0_4))))
theorem am_kl_200_0 : am_cka (am_mt mL_law_) cd_L_law_ (cd_L_law__200.take 40) 200 = true := by decide +kernel
theorem am_kl_200_1 : am_cka (am_mt mL_law_) cd_L_law_ ((cd_L_law__200.drop 40).take 40) 240 = true := by decide +kernel
theorem am_kl_200_2 : am_cka (am_mt mL_law_) cd_L_law_ (((cd_L_law__200.drop 40).drop 40).take 40) 280 = true := by decide +kernel
theorem am_kl_200_3 : am_cka (am_mt mL_law_) cd_L_law_ ((((cd_L_law__200.drop 40).drop 40).drop 40).take 40) 320 = true := by decide +kernel
theorem am_kl_200_4 : am_cka (am_mt mL_law_) cd_L_law_ ((((cd_L_law__200.drop 40).drop 40).drop 40).drop 40) 360 = true := by decide +kernel
theorem am_kl_200 : am_cka (am_mt mL_law_) cd_L_law_ cd_L_law__200 200 = true := am_cka_split 40 (by decide +kernel) am_kl_200_0 (am_cka_split 40 (by decide +kernel) am_kl_200_1 (am_cka_split 40 (by decide +kernel) am_kl_200_2 (am_cka_split 40 (by decide +kernel) am_kl_200_3 (am_kl_200_4))))
theorem am_kl_400_0 : am_cka (am_mt mL_law_) cd_L_law_ (cd_L_law__400.take 40) 400 = true := by decide +kernel
theorem am_kl_400_1 : am_cka (am_mt mL_law_) cd_L_law_ ((cd_L_law__400.drop 40).take 40) 440 = true := by decide +kernel
theorem am_kl_400_2 : am_cka (am_mt mL_law_) cd_L_law_ (((cd_L_law__400.drop 40).drop 40).take 40) 480 = true := by decide +kernel
theorem am_kl_400_3 : am_cka (am_mt mL_law_) cd_L_law_ ((((cd_L_law__400.drop 40).drop 40).drop 40).take 40) 520 = true := by decide +kernel
theorem am_kl_400_4 : am_cka (am_mt mL_law_) cd_L_law_ ((((cd_L_law__400.drop 40).drop 40).drop 40).drop 40) 560 = true := by decide +kernel
theorem am_kl_400 : am_cka (am_mt mL_law_) cd_L_law_ cd_L_law__400 400 = true := am_cka_split 40 (by decide +kernel) am_kl_400_0 (am_cka_split 40 (by decide +kernel) am_kl_400_1 (am_cka_split 40 (by decide +kernel) am_kl_400_2 (am_cka_split 40 (by decide +kernel) am_kl_400_3 (am_kl_400_4))))
theorem am_kl_600_0 : am_cka (am_mt mL_law_) cd_L_law_ (cd_L_law__600.take 40) 600 = true := by decide +kernel
theorem am_kl_600_1 : am_cka (am_mt mL_law_) cd_L_law_ ((cd_L_law__600.drop 40).take 40) 640 = true := by decide +kernel
theorem am_kl_600_2 : am_cka (am_mt mL_law_) cd_L_law_ (((cd_L_law__600.drop 40).drop 40).take 40) 680 = true := by decide +kernel
theorem am_kl_600_3 : am_cka (am_mt mL_law_) cd_L_law_ ((((cd_L_law__600.drop 40).drop 40).drop 40).take 40) 720 = true := by decide +kernel
theorem am_kl_600_4 : am_cka (am_mt mL_law_) cd_L_law_ ((((cd_L_law__600.drop 40).drop 40).drop 40).drop 40) 760 = true := by decide +kernel
theorem am_kl_600 : am_cka (am_mt mL_law_) cd_L_law_ cd_L_law__600 600 = true := am_cka_split 40 (by decide +kernel) am_kl_600_0 (am_cka_split 40 (by decide +kernel) am_kl_600_1 (am_cka_split 40 (by decide +kernel) am_kl_600_2 (am_cka_split 40 (by decide +kernel) am_kl_600_3 (am_kl_600_4))))
theorem am_kl_800_0 : am_cka (am_mt mL_law_) cd_L_law_ (cd_L_law__800.take 40) 800 = true := by decide +kernel
theorem am_kl_800_1 : am_cka (am_mt mL_law_) cd_L_law_ ((cd_L_law__800.drop 40).take 40) 840 = true := by decide +kernel
theorem am_kl_800_2 : am_cka (am_mt mL_law_) cd_L_law_ (((cd_L_law__800.drop 40).drop 40).take 40) 880 = true := by decide +kernel
theorem am_kl_800_3 : am_cka (am_mt mL_law_) cd_L_law_ ((((cd_L_law__800.drop 40).drop 40).drop 40).take 40) 920 = true := by decide +kernel
theorem am_kl_800_4 : am_cka (am_mt mL_law_) cd_L_law_ ((((cd_L_law__800.drop 40).drop 40).drop 40).drop 40) 960 = true := by decide +kernel
theorem am_kl_800 : am_cka (am_mt mL_law_) cd_L_law_ cd_L_law__800 800 = true := am_cka_split 40 (by decide +kernel) am_kl_800_0 (am_cka_split 40 (by decide +kernel) am_kl_800_1 (am_cka_split 40 (by decide +kernel) am_kl_800_2 (am_cka_split 40 (by decide +kernel) am_kl_800_3 (am_kl_800_4))))
theorem am_kl_1000_0 : am_cka (am_mt mL_law_) cd_L_law_ (cd_L_law__1000.take 40) 1000 = true := by decide +kernel
theorem am_kl_1000_1 : am_cka (am_mt mL_law_) cd_L_law_ ((cd_L_law__1000.drop 40).take 40) 1040 = true := by decide +kernel
theorem am_kl_1000_2 : am_cka (am_mt mL_law_) cd_L_law_ (((cd_L_law__1000.drop 40).drop 40).take 40) 1080 = true := by decide +kernel
theorem am_kl_1000_3 : am_cka (am_mt mL_law_) cd_L_law_ ((((cd_L_law__1000.drop 40).drop 40).drop 40).take 40) 1120 = true := by decide +kernel
theorem am_kl_1000_4 : am_cka (am_mt mL_law_) cd_L_law_ ((((cd_L_law__1000.drop 40).drop 40).drop 40).drop 40) 1160 = true := by decide +kernel
theorem am_kl_1000 : am_cka (am_mt mL_law_) cd_L_law_ cd_L_law__1000 1000 = true := am_cka_split 40 (by decide +kernel) am_kl_1000_0 (am_cka_split 40 (by decide +kernel) am_kl_1000_1 (am_cka_split 40 (by decide +kernel) am_kl_1000_2 (am_cka_split 40 (by decide +kernel) am_kl_1000_3 (am_kl_1000_4))))
theorem am_kl_1200_0 : am_cka (am_mt mL_law_) cd_L_law_ (cd_L_law__1200.take 40) 1200 = true := by decide +kernel
theorem am_kl_1200_1 : am_cka (am_mt mL_law_) cd_L_law_ ((cd_L_law__1200.drop 40).take 40) 1240 = true := by decide +kernel
theorem am_kl_1200_2 : am_cka (am_mt mL_law_) cd_L_law_ (((cd_L_law__1200.drop 40).drop 40).take 40) 1280 = true := by decide +kernel
theorem am_kl_1200_3 : am_cka (am_mt mL_law_) cd_L_law_ ((((cd_L_law__1200.drop 40).drop 40).drop 40).take 40) 1320 = true := by decide +kernel
theorem am_kl_1200_4 : am_cka (am_mt mL_law_) cd_L_law_ ((((cd_L_law__1200.drop 40).drop 40).drop 40).drop 40) 1360 = true := by decide +kernel
theorem am_kl_1200 : am_cka (am_mt mL_law_) cd_L_law_ cd_L_law__1200 1200 = true := am_cka_split 40 (by decide +kernel) am_kl_1200_0 (am_cka_split 40 (by decide +kernel) am_kl_1200_1 (am_cka_split 40 (by decide +kernel) am_kl_1200_2 (am_cka_split 40 (by decide +kernel) am_kl_1200_3 (am_kl_1200_4))))
theorem am_kl_1400_0 : am_cka (am_mt mL_law_) cd_L_law_ (cd_L_law__1400.take 40) 1400 = true := by decide +kernel
theorem am_kl_1400_1 : am_cka (am_mt mL_law_) cd_L_law_ ((cd_L_law__1400.drop 40).take 40) 1440 = true := by decide +kernel
theorem am_kl_1400_2 : am_cka (am_mt mL_law_) cd_L_law_ (((cd_L_law__1400.drop 40).drop 40).take 40) 1480 = true := by decide +kernel
theorem am_kl_1400_3 : am_cka (am_mt mL_law_) cd_L_law_ ((((cd_L_law__1400.drop 40).drop 40).drop 40).take 40) 1520 = true := by decide +kernel
theorem am_kl_1400_4 : am_cka (am_mt mL_law_) cd_L_law_ ((((cd_L_law__1400.drop 40).drop 40).drop 40).drop 40) 1560 = true := by decide +kernel
theorem am_kl_1400 : am_cka (am_mt mL_law_) cd_L_law_ cd_L_law__1400 1400 = true := am_cka_split 40 (by decide +kernel) am_kl_1400_0 (am_cka_split 40 (by decide +kernel) am_kl_1400_1 (am_cka_split 40 (by decide +kernel) am_kl_1400_2 (am_cka_split 40 (by decide +kernel) am_kl_1400_3 (am_kl_1400_4))))
theorem am_kl_1600_0 : am_cka (am_mt mL_law_) cd_L_law_ (cd_L_law__1600.take 40) 1600 = true := by decide +kernel
theorem am_kl_1600_1 : am_cka (am_mt mL_law_) cd_L_law_ ((cd_L_law__1600.drop 40).take 40) 1640 = true := by decide +kernel
theorem am_kl_1600_2 : am_cka (am_mt mL_law_) cd_L_law_ (((cd_L_law__1600.drop 40).drop 40).take 40) 1680 = true := by decide +kernel
theorem am_kl_1600_3 : am_cka (am_mt mL_law_) cd_L_law_ ((((cd_L_law__1600.drop 40).drop 40).drop 40).take 40) 1720 = true := by decide +kernel
theorem am_kl_1600_4 : am_cka (am_mt mL_law_) cd_L_law_ ((((cd_L_law__1600.drop 40).drop 40).drop 40).drop 40) 1760 = true := by decide +kernel
theorem am_kl_1600 : am_cka (am_mt mL_law_) cd_L_law_ cd_L_law__1600 1600 = true := am_cka_split 40 (by decide +kernel) am_kl_1600_0 (am_cka_split 40 (by decide +kernel) am_kl_1600_1 (am_cka_split 40 (by decide +kernel) am_kl_1600_2 (am_cka_split 40 (by decide +kernel) am_kl_1600_3 (am_kl_1600_4))))
theorem am_kl_1800_0 : am_cka (am_mt mL_law_) cd_L_law_ (cd_L_law__1800.take 40) 1800 = true := by decide +kernel
theorem am_kl_1800_1 : am_cka (am_mt mL_law_) cd_L_law_ ((cd_L_law__1800.drop 40).take 40) 1840 = true := by decide +kernel
theorem am_kl_1800_2 : am_cka (am_mt mL_law_) cd_L_law_ (((cd_L_law__1800.drop 40).drop 40).take 40) 1880 = true := by decide +kernel
theorem am_kl_1800_3 : am_cka (am_mt mL_law_) cd_L_law_ ((((cd_L_law__1800.drop 40).drop 40).drop 40).take 40) 1920 = true := by decide +kernel
theorem am_kl_1800_4 : am_cka (am_mt mL_law_) cd_L_law_ ((((cd_L_law__1800.drop 40).drop 40).drop 40).drop 40) 1960 = true := by decide +kernel
theorem am_kl_1800 : am_cka (am_mt mL_law_) cd_L_law_ cd_L_law__1800 1800 = true := am_cka_split 40 (by decide +kernel) am_kl_1800_0 (am_cka_split 40 (by decide +kernel) am_kl_1800_1 (am_cka_split 40 (by decide +kernel) am_kl_1800_2 (am_cka_split 40 (by decide +kernel) am_kl_1800_3 (am_kl_1800_4))))
theorem am_kl_2000_0 : am_cka (am_mt mL_law_) cd_L_law_ (cd_L_law__2000.take 40) 2000 = true := by decide +kernel
theorem am_kl_2000_1 : am_cka (am_mt mL_law_) cd_L_law_ (cd_L_law__2000.drop 40) 2040 = true := by decide +kernel
theorem am_kl_2000 : am_cka (am_mt mL_law_) cd_L_law_ cd_L_law__2000 2000 = true := am_cka_split 40 (by decide +kernel) am_kl_2000_0 (am_kl_2000_1)
theorem am_k_L_law_ : am_ckm mL_law_ [] = true := by
  have h : am_cka (am_mt mL_law_) cd_L_law_ cd_L_law_ 0 = true := (am_cka_app (k := 200) rfl am_kl_0 (am_cka_app (k := 200) rfl am_kl_200 (am_cka_app (k := 200) rfl am_kl_400 (am_cka_app (k := 200) rfl am_kl_600 (am_cka_app (k := 200) rfl am_kl_800 (am_cka_app (k := 200) rfl am_kl_1000 (am_cka_app (k := 200) rfl am_kl_1200 (am_cka_app (k := 200) rfl am_kl_1400 (am_cka_app (k := 200) rfl am_kl_1600 (am_cka_app (k := 200) rfl am_kl_1800 am_kl_2000))))))))))
  have e : am_at mL_law_ = (cd_L_law_, [], 7) := at_L_law_
  unfold am_ckm
  rw [e]
  simp only [Bool.and_eq_true, decide_eq_true_eq]
  exact ⟨⟨⟨rfl, rfl⟩, rfl⟩, h⟩
