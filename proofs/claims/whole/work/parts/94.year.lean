/-! A YEAR -/
def shW (w : am_Wd) (t : Nat) : am_Wd := fun j => if 631 ≤ j + t ∧ j < 631 then w (j - 5) else w j
def grown (w : am_Wd) (b : Nat) : am_Wd := if w (7 + 5 * b) = 1 then up (up w (7 + 5 * b + 2) (max 0 (min 999 (w (7 + 5 * b + 2) + grW w b)))) (7 + 5 * b + 1) (min 999 (w (7 + 5 * b + 1) + 1)) else w
def soreAt (w : am_Wd) (f : Nat) : Int := sm (fun k => if sd (w (307 + 4 * f)).toNat k = -1 then 0 else srW w (sd (w (307 + 4 * f)).toNat k).toNat) 4
def fretted (w : am_Wd) (f : Nat) : am_Wd := up w (307 + 4 * f + 3) (min 99 (w (307 + 4 * f + 3) + soreAt w f))
def lcg (x : Int) : Int := w32 (w32 (1103515245 * x) + 12345)
def quar (w : am_Wd) (f : Nat) : am_Wd × Int :=
  let w1 := up w 6 (lcg (w 6))
  if drW (lcg (w 6)) % 100 < w 4 + w (307 + 4 * f + 3) then
    let w2 := up w1 6 (lcg (lcg (w 6)))
    let x := sd (w (307 + 4 * f)).toNat (drW (lcg (lcg (w 6))) % 4).toNat
    if x = -1 then (w2, 0) else if w (7 + 5 * x.toNat) = 1 then (w2, 0) else (teW (feW w2 x.toNat 0 0 0 0) x 0 f 0, 1)
  else (w1, 0)
def yGrow (w : am_Wd) : am_Wd := fo (fun b v => grown v b) 60 w
def yFret (w : am_Wd) : am_Wd := fo (fun f v => fretted v f) (w 0).toNat w
def yQuar (w : am_Wd) : am_Wd × Int := fo (fun f v => ((quar v.1 f).1, v.2 + (quar v.1 f).2)) (w 0).toNat (w, 0)
def yEnd (w : am_Wd) : am_Wd := up w 3 (min 9999 (w 3 + 1))
def oneY (w : am_Wd) : am_Wd × Int := (yEnd (yQuar (yFret (yGrow w))).1, (yQuar (yFret (yGrow w))).2)
def goY (w : am_Wd) (n : Nat) : am_Wd × Int := fo (fun _ v => ((oneY v.1).1, v.2 + (oneY v.1).2)) n (w, 0)
theorem i32_w (z : Int) : i32 (w32 z) := by unfold i32 w32; omega
theorem lcg_b (x : Int) : i32 (lcg x) := i32_w _
theorem laW_n {w : am_Wd} {ln cc : Nat} {kd : Int} {b : Nat} (W : WL w ln cc) : 0 ≤ laW w kd b ∧ laW w kd b ≤ 720 := laW_all W
theorem grW_b {w : am_Wd} (M : ML w) {b : Nat} : -720 ≤ grW w b ∧ grW w b ≤ 720 := by
  unfold grW
  rcases M with M | ⟨M0, ln, cc, W⟩
  · rw [if_pos M]
    split <;> omega
  · have h1 := laW_all (kd := 0) (b := b) W
    have h2 := laW_all (kd := 1) (b := b) W
    split
    · omega
    · split <;> omega
theorem srW_b {w : am_Wd} (M : ML w) {b : Nat} : 0 ≤ srW w b ∧ srW w b ≤ 720 := by
  unfold srW
  rcases M with M | ⟨M0, ln, cc, W⟩
  · rw [if_neg (by omega)]
    omega
  · have h1 := laW_all (kd := 2) (b := b) W
    split <;> omega
theorem soreAt_b {w : am_Wd} (M : ML w) {f n : Nat} (hn : n ≤ 4) : 0 ≤ sm (fun k => if sd (w (307 + 4 * f)).toNat k = -1 then 0 else srW w (sd (w (307 + 4 * f)).toNat k).toNat) n ∧ sm (fun k => if sd (w (307 + 4 * f)).toNat k = -1 then 0 else srW w (sd (w (307 + 4 * f)).toNat k).toNat) n ≤ 720 * n := by
  have h := sm_le (f := fun k => if sd (w (307 + 4 * f)).toNat k = -1 then 0 else srW w (sd (w (307 + 4 * f)).toNat k).toNat) (A := 0) (B := 720) (N := n) (fun i hi => by
    have := srW_b M (b := (sd (w (307 + 4 * f)).toNat i).toNat)
    split <;> omega)
  omega
theorem grown_g {w : am_Wd} {b j : Nat} (hj : j < 7 + 5 * b ∨ 7 + 5 * b + 5 ≤ j) : grown w b j = w j := by
  unfold grown
  split
  · rw [up_o (by omega), up_o (by omega)]
  · rfl
theorem grown_t {w : am_Wd} {b : Nat} (hb : b < 60) : T2 w (grown w b) := ⟨grown_g (by omega), fun j hj => grown_g (by omega)⟩
theorem grown_w {w : am_Wd} (V : WW w) (M : ML w) {b : Nat} (hb : b < 60) : WW (grown w b) := by
  have hv := V.fe hb
  have hg := grW_b M (b := b)
  refine V.chF (b := b) (fun j hj => grown_g hj) hb ?_
  unfold grown
  by_cases h : w (7 + 5 * b) = 1
  · rw [if_pos h]
    right
    rw [up_o (by omega), up_o (by omega), up_s, up_o (by omega), up_s, up_o (by omega), up_o (by omega), up_o (by omega), up_o (by omega)]
    omega
  · rw [if_neg h]
    exact V.fe hb
theorem fretted_g {w : am_Wd} {f j : Nat} (hj : j ≠ 307 + 4 * f + 3) : fretted w f j = w j := up_o hj
theorem fretted_t {w : am_Wd} {f : Nat} (hf : f < 6) : T2 w (fretted w f) := ⟨fretted_g (by omega), fun j hj => fretted_g (by omega)⟩
theorem fretted_w {w : am_Wd} (V : WW w) (M : ML w) {f : Nat} (hf : f < 6) : WW (fretted w f) := by
  have hv := V.fm hf
  have hg := soreAt_b M (f := f) (Nat.le_refl 4)
  refine V.chM (f := f) (fun j hj => fretted_g (by omega)) hf ?_
  unfold WM
  rw [fretted_g (by omega), fretted_g (by omega), fretted_g (by omega)]
  unfold fretted
  rw [up_s]
  refine ⟨hv.1, hv.2.1, hv.2.2.1, ?_⟩
  unfold soreAt
  omega
theorem up6_w {w : am_Wd} (V : WW w) {x : Int} (hx : i32 x) : WW (up w 6 x) := by
  refine V.chS (fun j h1 h2 => up_o (by omega)) ?_
  obtain ⟨g0, g1, g2, g3, g4, g5, g6⟩ := V.ws
  unfold WS
  rw [up_o (by omega), up_o (by omega), up_o (by omega), up_o (by omega), up_o (by omega), up_o (by omega), up_s]
  exact ⟨g0, g1, g2, g3, g4, g5, hx⟩
theorem yEnd_w {w : am_Wd} (V : WW w) : WW (yEnd w) := by
  refine V.chS (fun j h1 h2 => up_o (by omega)) ?_
  obtain ⟨g0, g1, g2, g3, g4, g5, g6⟩ := V.ws
  unfold WS yEnd
  rw [up_o (by omega), up_o (by omega), up_o (by omega), up_s, up_o (by omega), up_o (by omega), up_o (by omega)]
  exact ⟨g0, g1, g2, (by omega), g4, g5, g6⟩
theorem dr4 (x : Int) : (drW x % 4).toNat < 4 ∧ 0 ≤ drW x % 4 := by omega
theorem quar_sd {w : am_Wd} (V : WW w) {f : Nat} (hf : f < 6) (x : Int) : -1 ≤ sd (w (307 + 4 * f)).toNat (drW x % 4).toNat ∧ sd (w (307 + 4 * f)).toNat (drW x % 4).toNat < 60 := by
  have hv := V.fm hf
  exact sd_lt _ (by omega) _ (dr4 x).1
theorem quar_w {w : am_Wd} (V : WW w) {f : Nat} (hf : f < 6) : WW (quar w f).1 ∧ T2 w (quar w f).1 ∧ (0 ≤ (quar w f).2 ∧ (quar w f).2 ≤ 1) ∧ (quar w f).1 0 = w 0 := by
  have h1 := up6_w V (lcg_b (w 6))
  have h2 := up6_w h1 (lcg_b (lcg (w 6)))
  have hx := quar_sd V hf (lcg (lcg (w 6)))
  have t1 : T2 w (up w 6 (lcg (w 6))) := (T2.rf w).up (by omega) (by omega)
  have t2 : T2 w (up (up w 6 (lcg (w 6))) 6 (lcg (lcg (w 6)))) := t1.up (by omega) (by omega)
  unfold quar
  dsimp only
  split
  · split
    · exact ⟨h2, t2, by omega, rfl⟩
    · split
      · exact ⟨h2, t2, by omega, rfl⟩
      · refine ⟨teW_w (feW_w h2 (by omega) (by omega) (by omega) (Or.inl rfl) (Or.inl rfl)), t2.tr ((feW_t (by omega)).tr teW_t), by omega, ?_⟩
        show feW _ _ 0 0 0 0 0 = w 0
        rw [feW_g (by omega)]
        rfl
  · exact ⟨h1, t1, by omega, rfl⟩
