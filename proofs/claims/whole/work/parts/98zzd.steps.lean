/-! THE LAW'S STEPS: one call put to both, by the law's body. Written by gen/steps.py. -/
def LInv (h : am_H) (I : am_I) : Prop := Rel h I ∧ BBh (hI h I)
def ovL (bo : Bool) (v : Int) : Int := if bo = true then (if v = 0 then 0 else 1) else v
/-- a call by the law's own helper, then by the reference -/
def Wr (h : am_H) (I : am_I) (c : am_R) (M : am_H → am_R) (bo : Bool) : Prop := ∃ k h1 J1, c = some (.inl (Vi k), hI h1 J1) ∧ Sh h1 ∧ ∃ v h2 J2, M (hI h1 J1) = some (.inl (Vi v), hI h2 J2) ∧ LInv h2 J2 ∧ J2 283 0 = k ∧ Bd h h2 ∧ (k = 0 → J2 303 0 = ovL bo v)
/-- a call by the law itself -/
def Dr (h : am_H) (I : am_I) (c : am_R) (M : am_H → am_R) : Prop := ∃ v h1 J1 h2 J2, c = some (.inl (Vi v), hI h1 J1) ∧ Sh h1 ∧ M (hI h1 J1) = some (.inl (Vi v), hI h2 J2) ∧ LInv h2 J2 ∧ Bd h h2
theorem u2_id {I : am_I} {a j : Nat} : am_u2 I a j (I a j) = I := by
  funext b i
  unfold am_u2
  by_cases e : b = a ∧ i = j
  · rw [if_pos e, e.1, e.2]
  · rw [if_neg e]
section
variable {sc : Nat × (Nat → Int)} {d D mC mM : Nat} {h h1 h2 : am_H} {I J J1 J2 : am_I} {ca ma : List am_V} {cd : Nat → Int} {x y z t k v i : Int}
theorem KK.of (s : Sh h) {o : Int} (e : I 303 0 = o) : KK o (hI h I) := ⟨s.T 303 rfl, s.2.2, e⟩
theorem pubS (l : LInv h I) (hC : mC < 386) (hM : mM < 386) (p : Pub h I (Cl sc D mC ca) (Cl sc D mM ma) cd) : ∃ x v h1 J1, (x = 0 ∨ x ∈ exS mC) ∧ Cl sc D mC ca (hI h I) = out x v h1 J1 ∧ Sh h1 ∧ ∀ o, ∃ v' h2 J2, (x = 0 → v' = v) ∧ Cl sc D mM ma (hI h1 (am_u2 J1 303 0 o)) = some (.inl (Vi v'), hI h2 J2) ∧ LInv h2 J2 ∧ J2 303 0 = o ∧ J2 283 0 = cd x ∧ Bd h h2 := by
  obtain ⟨x, v, v', h1, J1, c1, s1, e1, m⟩ := p
  have kk := xx_Cl (sc := sc) (d := D) (m := mC) (args := ca) hC (KK.of (I := I) l.1.1 rfl)
  have B1 : BBh (hI h1 J1) := by
    unfold out at c1
    by_cases hx : x = 0
    · rw [if_pos hx] at c1
      exact bb_Cl l.2 _ _ c1
    · rw [if_neg hx] at c1
      exact bb_Cl l.2 _ _ c1
  refine ⟨x, v, h1, J1, ?_, c1, s1, fun o => ?_⟩
  · by_cases hx : x = 0
    · exact Or.inl hx
    · unfold out at c1
      rw [if_neg hx] at c1
      exact Or.inr ((kk _ _ c1).2 x rfl)
  · obtain ⟨h2, J2, m1, m2, m3, m4⟩ := m o
    have B2 : BBh (hI h1 (am_u2 J1 303 0 o)) := bb_wI (h := hI h1 J1) B1 (fun z => by
      rw [show hT (hI h1 J1) 303 = (4, 1) from s1.T 303 rfl] at z
      cases z)
    have kk2 := xx_Cl (sc := sc) (d := D) (m := mM) (args := ma) hM (KK.of (I := am_u2 J1 303 0 o) (h := h1) s1 (o := o) u2_same)
    exact ⟨v', h2, J2, fun hx => (e1 hx).symm, m1, ⟨m2, bb_Cl B2 _ _ m1⟩, (kk2 _ _ m1).1.2.2, m3, m4⟩
theorem m_thrown (s : Sh h) : Cl sc (d + 1) mX12_thrown [Vr (some 283)] (hI h I) = some (.inl (Vi (I 283 0)), hI h I) := by
  rw [q_X12_thrown_0, e_gfI (s.T 283 rfl)]
theorem tl0 {X : am_H → am_R} {Y : am_H → am_R} (s : Sh h) (e : I 283 0 = k) (e2 : k = 0 → I 303 0 = ovL false v) : am_rcv 12 (hI h I) (Vr (some 283)) (clI (Cl sc (d + 1) mX12_thrown [Vr (some 283)] (hI h I)) am_xt fun v6 h5 => if v6 = k then (if k = 0 then ldA 4 h5 (some 303) 0 fun v7 => (if (if v < v7 then (1 : Int) else if v7 = v then 0 else -1) = 0 then X h5 else Y h5) else X h5) else Y h5) = X (hI h I) := by
  rw [m_cal s (m_thrown s), e, if_pos rfl]
  by_cases hk : k = 0
  · have e3 : I 303 0 = v := e2 hk
    rw [if_pos hk, e_ldA (s.T 303 rfl) (by decide) (by decide), show (0 : Int).toNat = 0 from rfl, e3, if_neg (Int.lt_irrefl v), if_pos rfl, if_pos rfl]
  · rw [if_neg hk]
theorem tl1 {X : am_H → am_R} {Y : am_H → am_R} (s : Sh h) (e : I 283 0 = k) (e2 : k = 0 → I 303 0 = ovL true v) : am_rcv 12 (hI h I) (Vr (some 283)) (clI (Cl sc (d + 1) mX12_thrown [Vr (some 283)] (hI h I)) am_xt fun v6 h5 => if v6 = k then (if k = 0 then ldA 4 h5 (some 303) 0 fun v7 => (if v = 0 then (if (if 0 < v7 then (1 : Int) else if v7 = 0 then 0 else -1) = 0 then X h5 else Y h5) else (if (if 1 < v7 then (1 : Int) else if v7 = 1 then 0 else -1) = 0 then X h5 else Y h5)) else X h5) else Y h5) = X (hI h I) := by
  rw [m_cal s (m_thrown s), e, if_pos rfl]
  by_cases hk : k = 0
  · have e3 : I 303 0 = if v = 0 then 0 else 1 := e2 hk
    rw [if_pos hk, e_ldA (s.T 303 rfl) (by decide) (by decide), show (0 : Int).toNat = 0 from rfl, e3]
    by_cases hv : v = 0
    · rw [if_pos hv, if_pos hv, if_neg (Int.lt_irrefl 0), if_pos rfl, if_pos rfl]
    · rw [if_neg hv, if_neg hv, if_neg (Int.lt_irrefl 1), if_pos rfl, if_pos rfl]
  · rw [if_neg hk]
theorem drOf (l : LInv h I) (hC : mC < 386) (hM : mM < 386) (hS : exS mC = []) (p : Pub h I (Cl sc D mC ca) (Cl sc D mM ma) cd) : Dr h I (Cl sc D mC ca (hI h I)) (Cl sc D mM ma) := by
  obtain ⟨z, v, h1, J1, e0, e1, s1, e2⟩ := pubS l hC hM p
  rw [hS] at e0
  have hz : z = 0 := by
    rcases e0 with e | e
    · exact e
    · cases e
  subst hz
  obtain ⟨v', h2, J2, f1, f2, f3, f4, f5, f6⟩ := e2 (J1 303 0)
  rw [u2_id, f1 rfl] at f2
  exact ⟨v, h1, J1, h2, J2, e1, s1, f2, f3, f6⟩
theorem w_county (l : LInv h I) : Wr h I (Cl sc (d + 59) mL_county [Vr (some 0), Vr (some 303)] (hI h I)) (Cl sc (d + 59) mX12_county [Vr (some 283)]) false := by
  have p : Pub h I (Cl sc (d + 58) mX11_county [Vr (some 0)]) (Cl sc (d + 58) mX12_county [Vr (some 283)]) cdC := p_county l.1 l.2
  obtain ⟨z, v, h1, J1, e0, e1, s1, e2⟩ := pubS l (by decide) (by decide) p
  have ex : exS mX11_county = [1, 2] := by decide
  rw [ex] at e0
  have e0 : z = 0 ∨ z = 1 ∨ z = 2 := by simpa using e0
  rcases e0 with rfl | rfl | rfl
  · have e1 : Cl sc (d + 58) mX11_county [Vr (some 0)] (hI h I) = some (.inl (Vi v), hI h1 J1) := e1
    obtain ⟨v', h2, J2, f1, f2, f3, f4, f5, f6⟩ := e2 (ovL false v)
    rw [f1 rfl] at f2
    refine ⟨0, h1, am_u2 J1 303 0 (ovL false v), ?_, s1, v, h2, J2, up_Cl _ f2, f3, f5, f6, fun _ => f4⟩
    rw [q_L_county_0, (BO l.1.1).1, e1, e_clI, e_stA (s1.T 303 rfl) (by decide) (by decide)]
    rfl
  · have e1 : Cl sc (d + 58) mX11_county [Vr (some 0)] (hI h I) = some (.inr 1, hI h1 J1) := e1
    obtain ⟨v', h2, J2, f1, f2, f3, f4, f5, f6⟩ := e2 (J1 303 0)
    rw [u2_id] at f2
    refine ⟨cdC 1, h1, J1, ?_, s1, v', h2, J2, up_Cl _ f2, f3, f5, f6, fun z => absurd z (by decide)⟩
    rw [q_L_county_0, (BO l.1.1).1, e1, e_clIx]
    exact q_L_county_7 sc (d + 58) _ _ _ _
  · have e1 : Cl sc (d + 58) mX11_county [Vr (some 0)] (hI h I) = some (.inr 2, hI h1 J1) := e1
    obtain ⟨v', h2, J2, f1, f2, f3, f4, f5, f6⟩ := e2 (J1 303 0)
    rw [u2_id] at f2
    refine ⟨cdC 2, h1, J1, ?_, s1, v', h2, J2, up_Cl _ f2, f3, f5, f6, fun z => absurd z (by decide)⟩
    rw [q_L_county_0, (BO l.1.1).1, e1, e_clIx]
    exact q_L_county_10 sc (d + 58) _ _ _ _
theorem w_law (l : LInv h I) : Wr h I (Cl sc (d + 59) mL_law [Vr (some 0), Vr (some 303)] (hI h I)) (Cl sc (d + 59) mX12_law [Vr (some 283)]) false := by
  have p : Pub h I (Cl sc (d + 58) mX11_law [Vr (some 0)]) (Cl sc (d + 58) mX12_law [Vr (some 283)]) cdA := p_law l.1
  obtain ⟨z, v, h1, J1, e0, e1, s1, e2⟩ := pubS l (by decide) (by decide) p
  have ex : exS mX11_law = [1] := by decide
  rw [ex] at e0
  have e0 : z = 0 ∨ z = 1 := by simpa using e0
  rcases e0 with rfl | rfl
  · have e1 : Cl sc (d + 58) mX11_law [Vr (some 0)] (hI h I) = some (.inl (Vi v), hI h1 J1) := e1
    obtain ⟨v', h2, J2, f1, f2, f3, f4, f5, f6⟩ := e2 (ovL false v)
    rw [f1 rfl] at f2
    refine ⟨0, h1, am_u2 J1 303 0 (ovL false v), ?_, s1, v, h2, J2, up_Cl _ f2, f3, f5, f6, fun _ => f4⟩
    rw [q_L_law_0, (BO l.1.1).1, e1, e_clI, e_stA (s1.T 303 rfl) (by decide) (by decide)]
    rfl
  · have e1 : Cl sc (d + 58) mX11_law [Vr (some 0)] (hI h I) = some (.inr 1, hI h1 J1) := e1
    obtain ⟨v', h2, J2, f1, f2, f3, f4, f5, f6⟩ := e2 (J1 303 0)
    rw [u2_id] at f2
    refine ⟨cdA 1, h1, J1, ?_, s1, v', h2, J2, up_Cl _ f2, f3, f5, f6, fun z => absurd z (by decide)⟩
    rw [q_L_law_0, (BO l.1.1).1, e1, e_clIx]
    exact q_L_law_7 sc (d + 58) _ _ _ _
theorem w_border (l : LInv h I) : Wr h I (Cl sc (d + 59) mL_border [Vr (some 0), Vi x, Vi y, Vr (some 303)] (hI h I)) (Cl sc (d + 59) mX12_border [Vr (some 283), Vi x, Vi y]) false := by
  have p : Pub h I (Cl sc (d + 58) mX11_border [Vr (some 0), Vi x, Vi y]) (Cl sc (d + 58) mX12_border [Vr (some 283), Vi x, Vi y]) cdB := p_border l.1
  obtain ⟨z, v, h1, J1, e0, e1, s1, e2⟩ := pubS l (by decide) (by decide) p
  have ex : exS mX11_border = [3, 4] := by decide
  rw [ex] at e0
  have e0 : z = 0 ∨ z = 3 ∨ z = 4 := by simpa using e0
  rcases e0 with rfl | rfl | rfl
  · have e1 : Cl sc (d + 58) mX11_border [Vr (some 0), Vi x, Vi y] (hI h I) = some (.inl (Vi v), hI h1 J1) := e1
    obtain ⟨v', h2, J2, f1, f2, f3, f4, f5, f6⟩ := e2 (ovL false v)
    rw [f1 rfl] at f2
    refine ⟨0, h1, am_u2 J1 303 0 (ovL false v), ?_, s1, v, h2, J2, up_Cl _ f2, f3, f5, f6, fun _ => f4⟩
    rw [q_L_border_0, (BO l.1.1).1, e1, e_clI, e_stA (s1.T 303 rfl) (by decide) (by decide)]
    rfl
  · have e1 : Cl sc (d + 58) mX11_border [Vr (some 0), Vi x, Vi y] (hI h I) = some (.inr 3, hI h1 J1) := e1
    obtain ⟨v', h2, J2, f1, f2, f3, f4, f5, f6⟩ := e2 (J1 303 0)
    rw [u2_id] at f2
    refine ⟨cdB 3, h1, J1, ?_, s1, v', h2, J2, up_Cl _ f2, f3, f5, f6, fun z => absurd z (by decide)⟩
    rw [q_L_border_0, (BO l.1.1).1, e1, e_clIx]
    exact q_L_border_9 sc (d + 58) _ _ _ _ _ _
  · have e1 : Cl sc (d + 58) mX11_border [Vr (some 0), Vi x, Vi y] (hI h I) = some (.inr 4, hI h1 J1) := e1
    obtain ⟨v', h2, J2, f1, f2, f3, f4, f5, f6⟩ := e2 (J1 303 0)
    rw [u2_id] at f2
    refine ⟨cdB 4, h1, J1, ?_, s1, v', h2, J2, up_Cl _ f2, f3, f5, f6, fun z => absurd z (by decide)⟩
    rw [q_L_border_0, (BO l.1.1).1, e1, e_clIx]
    exact q_L_border_12 sc (d + 58) _ _ _ _ _ _
theorem w_between (l : LInv h I) : Wr h I (Cl sc (d + 59) mL_between [Vr (some 0), Vi x, Vi y, Vr (some 303)] (hI h I)) (Cl sc (d + 59) mX12_between [Vr (some 283), Vi x, Vi y]) false := by
  have p : Pub h I (Cl sc (d + 58) mX11_between [Vr (some 0), Vi x, Vi y]) (Cl sc (d + 58) mX12_between [Vr (some 283), Vi x, Vi y]) cdA := p_between l.1
  obtain ⟨z, v, h1, J1, e0, e1, s1, e2⟩ := pubS l (by decide) (by decide) p
  have ex : exS mX11_between = [3] := by decide
  rw [ex] at e0
  have e0 : z = 0 ∨ z = 3 := by simpa using e0
  rcases e0 with rfl | rfl
  · have e1 : Cl sc (d + 58) mX11_between [Vr (some 0), Vi x, Vi y] (hI h I) = some (.inl (Vi v), hI h1 J1) := e1
    obtain ⟨v', h2, J2, f1, f2, f3, f4, f5, f6⟩ := e2 (ovL false v)
    rw [f1 rfl] at f2
    refine ⟨0, h1, am_u2 J1 303 0 (ovL false v), ?_, s1, v, h2, J2, up_Cl _ f2, f3, f5, f6, fun _ => f4⟩
    rw [q_L_between_0, (BO l.1.1).1, e1, e_clI, e_stA (s1.T 303 rfl) (by decide) (by decide)]
    rfl
  · have e1 : Cl sc (d + 58) mX11_between [Vr (some 0), Vi x, Vi y] (hI h I) = some (.inr 3, hI h1 J1) := e1
    obtain ⟨v', h2, J2, f1, f2, f3, f4, f5, f6⟩ := e2 (J1 303 0)
    rw [u2_id] at f2
    refine ⟨cdA 3, h1, J1, ?_, s1, v', h2, J2, up_Cl _ f2, f3, f5, f6, fun z => absurd z (by decide)⟩
    rw [q_L_between_0, (BO l.1.1).1, e1, e_clIx]
    exact q_L_between_9 sc (d + 58) _ _ _ _ _ _
theorem w_family (l : LInv h I) : Wr h I (Cl sc (d + 59) mL_family [Vr (some 0), Vi x, Vi y, Vr (some 303)] (hI h I)) (Cl sc (d + 59) mX12_family [Vr (some 283), Vi x, Vi y]) false := by
  have p : Pub h I (Cl sc (d + 58) mX11_family [Vr (some 0), Vi x, Vi y]) (Cl sc (d + 58) mX12_family [Vr (some 283), Vi x, Vi y]) cdB := p_family l.1
  obtain ⟨z, v, h1, J1, e0, e1, s1, e2⟩ := pubS l (by decide) (by decide) p
  have ex : exS mX11_family = [3, 4] := by decide
  rw [ex] at e0
  have e0 : z = 0 ∨ z = 3 ∨ z = 4 := by simpa using e0
  rcases e0 with rfl | rfl | rfl
  · have e1 : Cl sc (d + 58) mX11_family [Vr (some 0), Vi x, Vi y] (hI h I) = some (.inl (Vi v), hI h1 J1) := e1
    obtain ⟨v', h2, J2, f1, f2, f3, f4, f5, f6⟩ := e2 (ovL false v)
    rw [f1 rfl] at f2
    refine ⟨0, h1, am_u2 J1 303 0 (ovL false v), ?_, s1, v, h2, J2, up_Cl _ f2, f3, f5, f6, fun _ => f4⟩
    rw [q_L_family_0, (BO l.1.1).1, e1, e_clI, e_stA (s1.T 303 rfl) (by decide) (by decide)]
    rfl
  · have e1 : Cl sc (d + 58) mX11_family [Vr (some 0), Vi x, Vi y] (hI h I) = some (.inr 3, hI h1 J1) := e1
    obtain ⟨v', h2, J2, f1, f2, f3, f4, f5, f6⟩ := e2 (J1 303 0)
    rw [u2_id] at f2
    refine ⟨cdB 3, h1, J1, ?_, s1, v', h2, J2, up_Cl _ f2, f3, f5, f6, fun z => absurd z (by decide)⟩
    rw [q_L_family_0, (BO l.1.1).1, e1, e_clIx]
    exact q_L_family_9 sc (d + 58) _ _ _ _ _ _
  · have e1 : Cl sc (d + 58) mX11_family [Vr (some 0), Vi x, Vi y] (hI h I) = some (.inr 4, hI h1 J1) := e1
    obtain ⟨v', h2, J2, f1, f2, f3, f4, f5, f6⟩ := e2 (J1 303 0)
    rw [u2_id] at f2
    refine ⟨cdB 4, h1, J1, ?_, s1, v', h2, J2, up_Cl _ f2, f3, f5, f6, fun z => absurd z (by decide)⟩
    rw [q_L_family_0, (BO l.1.1).1, e1, e_clIx]
    exact q_L_family_12 sc (d + 58) _ _ _ _ _ _
theorem w_years (l : LInv h I) : Wr h I (Cl sc (d + 59) mL_years [Vr (some 0), Vi x, Vr (some 303)] (hI h I)) (Cl sc (d + 59) mX12_years [Vr (some 283), Vi x]) false := by
  have p : Pub h I (Cl sc (d + 58) mX11_years [Vr (some 0), Vi x]) (Cl sc (d + 58) mX12_years [Vr (some 283), Vi x]) cdA := p_years l.1 (bb_county l.1.1 l.2 isC_now)
  obtain ⟨z, v, h1, J1, e0, e1, s1, e2⟩ := pubS l (by decide) (by decide) p
  have ex : exS mX11_years = [1] := by decide
  rw [ex] at e0
  have e0 : z = 0 ∨ z = 1 := by simpa using e0
  rcases e0 with rfl | rfl
  · have e1 : Cl sc (d + 58) mX11_years [Vr (some 0), Vi x] (hI h I) = some (.inl (Vi v), hI h1 J1) := e1
    obtain ⟨v', h2, J2, f1, f2, f3, f4, f5, f6⟩ := e2 (ovL false v)
    rw [f1 rfl] at f2
    refine ⟨0, h1, am_u2 J1 303 0 (ovL false v), ?_, s1, v, h2, J2, up_Cl _ f2, f3, f5, f6, fun _ => f4⟩
    rw [q_L_years_0, (BO l.1.1).1, e1, e_clI, e_stA (s1.T 303 rfl) (by decide) (by decide)]
    rfl
  · have e1 : Cl sc (d + 58) mX11_years [Vr (some 0), Vi x] (hI h I) = some (.inr 1, hI h1 J1) := e1
    obtain ⟨v', h2, J2, f1, f2, f3, f4, f5, f6⟩ := e2 (J1 303 0)
    rw [u2_id] at f2
    refine ⟨cdA 1, h1, J1, ?_, s1, v', h2, J2, up_Cl _ f2, f3, f5, f6, fun z => absurd z (by decide)⟩
    rw [q_L_years_0, (BO l.1.1).1, e1, e_clIx]
    exact q_L_years_8 sc (d + 58) _ _ _ _ _
theorem w_raise (l : LInv h I) : Wr h I (Cl sc (d + 59) mL_raise [Vr (some 0), Vi x, Vr (some 303)] (hI h I)) (Cl sc (d + 59) mX12_raise [Vr (some 283), Vi x]) false := by
  have p : Pub h I (Cl sc (d + 58) mX11_raise [Vr (some 0), Vi x]) (Cl sc (d + 58) mX12_raise [Vr (some 283), Vi x]) cdB := p_raise l.1 (bb_county l.1.1 l.2 isC_now)
  obtain ⟨z, v, h1, J1, e0, e1, s1, e2⟩ := pubS l (by decide) (by decide) p
  have ex : exS mX11_raise = [3, 5] := by decide
  rw [ex] at e0
  have e0 : z = 0 ∨ z = 3 ∨ z = 5 := by simpa using e0
  rcases e0 with rfl | rfl | rfl
  · have e1 : Cl sc (d + 58) mX11_raise [Vr (some 0), Vi x] (hI h I) = some (.inl (Vi v), hI h1 J1) := e1
    obtain ⟨v', h2, J2, f1, f2, f3, f4, f5, f6⟩ := e2 (ovL false v)
    rw [f1 rfl] at f2
    refine ⟨0, h1, am_u2 J1 303 0 (ovL false v), ?_, s1, v, h2, J2, up_Cl _ f2, f3, f5, f6, fun _ => f4⟩
    rw [q_L_raise_0, (BO l.1.1).1, e1, e_clI, e_stA (s1.T 303 rfl) (by decide) (by decide)]
    rfl
  · have e1 : Cl sc (d + 58) mX11_raise [Vr (some 0), Vi x] (hI h I) = some (.inr 3, hI h1 J1) := e1
    obtain ⟨v', h2, J2, f1, f2, f3, f4, f5, f6⟩ := e2 (J1 303 0)
    rw [u2_id] at f2
    refine ⟨cdB 3, h1, J1, ?_, s1, v', h2, J2, up_Cl _ f2, f3, f5, f6, fun z => absurd z (by decide)⟩
    rw [q_L_raise_0, (BO l.1.1).1, e1, e_clIx]
    exact q_L_raise_8 sc (d + 58) _ _ _ _ _
  · have e1 : Cl sc (d + 58) mX11_raise [Vr (some 0), Vi x] (hI h I) = some (.inr 5, hI h1 J1) := e1
    obtain ⟨v', h2, J2, f1, f2, f3, f4, f5, f6⟩ := e2 (J1 303 0)
    rw [u2_id] at f2
    refine ⟨cdB 5, h1, J1, ?_, s1, v', h2, J2, up_Cl _ f2, f3, f5, f6, fun z => absurd z (by decide)⟩
    rw [q_L_raise_0, (BO l.1.1).1, e1, e_clIx]
    exact q_L_raise_11 sc (d + 58) _ _ _ _ _
theorem w_pull (l : LInv h I) : Wr h I (Cl sc (d + 59) mL_pull [Vr (some 0), Vi x, Vr (some 303)] (hI h I)) (Cl sc (d + 59) mX12_pull [Vr (some 283), Vi x]) false := by
  have p : Pub h I (Cl sc (d + 58) mX11_pull [Vr (some 0), Vi x]) (Cl sc (d + 58) mX12_pull [Vr (some 283), Vi x]) cdB := p_pull l.1 (bb_county l.1.1 l.2 isC_now)
  obtain ⟨z, v, h1, J1, e0, e1, s1, e2⟩ := pubS l (by decide) (by decide) p
  have ex : exS mX11_pull = [3, 5] := by decide
  rw [ex] at e0
  have e0 : z = 0 ∨ z = 3 ∨ z = 5 := by simpa using e0
  rcases e0 with rfl | rfl | rfl
  · have e1 : Cl sc (d + 58) mX11_pull [Vr (some 0), Vi x] (hI h I) = some (.inl (Vi v), hI h1 J1) := e1
    obtain ⟨v', h2, J2, f1, f2, f3, f4, f5, f6⟩ := e2 (ovL false v)
    rw [f1 rfl] at f2
    refine ⟨0, h1, am_u2 J1 303 0 (ovL false v), ?_, s1, v, h2, J2, up_Cl _ f2, f3, f5, f6, fun _ => f4⟩
    rw [q_L_pull_0, (BO l.1.1).1, e1, e_clI, e_stA (s1.T 303 rfl) (by decide) (by decide)]
    rfl
  · have e1 : Cl sc (d + 58) mX11_pull [Vr (some 0), Vi x] (hI h I) = some (.inr 3, hI h1 J1) := e1
    obtain ⟨v', h2, J2, f1, f2, f3, f4, f5, f6⟩ := e2 (J1 303 0)
    rw [u2_id] at f2
    refine ⟨cdB 3, h1, J1, ?_, s1, v', h2, J2, up_Cl _ f2, f3, f5, f6, fun z => absurd z (by decide)⟩
    rw [q_L_pull_0, (BO l.1.1).1, e1, e_clIx]
    exact q_L_pull_8 sc (d + 58) _ _ _ _ _
  · have e1 : Cl sc (d + 58) mX11_pull [Vr (some 0), Vi x] (hI h I) = some (.inr 5, hI h1 J1) := e1
    obtain ⟨v', h2, J2, f1, f2, f3, f4, f5, f6⟩ := e2 (J1 303 0)
    rw [u2_id] at f2
    refine ⟨cdB 5, h1, J1, ?_, s1, v', h2, J2, up_Cl _ f2, f3, f5, f6, fun z => absurd z (by decide)⟩
    rw [q_L_pull_0, (BO l.1.1).1, e1, e_clIx]
    exact q_L_pull_11 sc (d + 58) _ _ _ _ _
theorem w_gate (l : LInv h I) (hy : y = 0 ∨ y = 1) : Wr h I (Cl sc (d + 59) mL_gate [Vr (some 0), Vi x, Vi y, Vr (some 303)] (hI h I)) (Cl sc (d + 59) mX12_gate [Vr (some 283), Vi x, Vi y]) true := by
  have p : Pub h I (Cl sc (d + 58) mX11_gate [Vr (some 0), Vi x, Vi y]) (Cl sc (d + 58) mX12_gate [Vr (some 283), Vi x, Vi y]) cdB := p_gate l.1 (bb_county l.1.1 l.2 isC_now) hy
  obtain ⟨z, v, h1, J1, e0, e1, s1, e2⟩ := pubS l (by decide) (by decide) p
  have ex : exS mX11_gate = [3, 5] := by decide
  rw [ex] at e0
  have e0 : z = 0 ∨ z = 3 ∨ z = 5 := by simpa using e0
  rcases e0 with rfl | rfl | rfl
  · have e1 : Cl sc (d + 58) mX11_gate [Vr (some 0), Vi x, Vi y] (hI h I) = some (.inl (Vi v), hI h1 J1) := e1
    obtain ⟨v', h2, J2, f1, f2, f3, f4, f5, f6⟩ := e2 (ovL true v)
    rw [f1 rfl] at f2
    refine ⟨0, h1, am_u2 J1 303 0 (ovL true v), ?_, s1, v, h2, J2, up_Cl _ f2, f3, f5, f6, fun _ => f4⟩
    rw [q_L_gate_0, (BO l.1.1).1, e1, e_clI]
    by_cases hv : v = 0
    · rw [if_pos hv, e_stA (s1.T 303 rfl) (by decide) (by decide), show ovL true v = 0 from if_pos hv]
      rfl
    · rw [if_neg hv, e_stA (s1.T 303 rfl) (by decide) (by decide), show ovL true v = 1 from if_neg hv]
      rfl
  · have e1 : Cl sc (d + 58) mX11_gate [Vr (some 0), Vi x, Vi y] (hI h I) = some (.inr 3, hI h1 J1) := e1
    obtain ⟨v', h2, J2, f1, f2, f3, f4, f5, f6⟩ := e2 (J1 303 0)
    rw [u2_id] at f2
    refine ⟨cdB 3, h1, J1, ?_, s1, v', h2, J2, up_Cl _ f2, f3, f5, f6, fun z => absurd z (by decide)⟩
    rw [q_L_gate_0, (BO l.1.1).1, e1, e_clIx]
    exact q_L_gate_12 sc (d + 58) _ _ _ _ _ _
  · have e1 : Cl sc (d + 58) mX11_gate [Vr (some 0), Vi x, Vi y] (hI h I) = some (.inr 5, hI h1 J1) := e1
    obtain ⟨v', h2, J2, f1, f2, f3, f4, f5, f6⟩ := e2 (J1 303 0)
    rw [u2_id] at f2
    refine ⟨cdB 5, h1, J1, ?_, s1, v', h2, J2, up_Cl _ f2, f3, f5, f6, fun z => absurd z (by decide)⟩
    rw [q_L_gate_0, (BO l.1.1).1, e1, e_clIx]
    exact q_L_gate_15 sc (d + 58) _ _ _ _ _ _
theorem w_string (l : LInv h I) (hy : y = 0 ∨ y = 1) : Wr h I (Cl sc (d + 59) mL_string [Vr (some 0), Vi x, Vi y, Vr (some 303)] (hI h I)) (Cl sc (d + 59) mX12_string [Vr (some 283), Vi x, Vi y]) true := by
  have p : Pub h I (Cl sc (d + 58) mX11_string [Vr (some 0), Vi x, Vi y]) (Cl sc (d + 58) mX12_string [Vr (some 283), Vi x, Vi y]) cdB := p_string l.1 (bb_county l.1.1 l.2 isC_now) hy
  obtain ⟨z, v, h1, J1, e0, e1, s1, e2⟩ := pubS l (by decide) (by decide) p
  have ex : exS mX11_string = [3, 5] := by decide
  rw [ex] at e0
  have e0 : z = 0 ∨ z = 3 ∨ z = 5 := by simpa using e0
  rcases e0 with rfl | rfl | rfl
  · have e1 : Cl sc (d + 58) mX11_string [Vr (some 0), Vi x, Vi y] (hI h I) = some (.inl (Vi v), hI h1 J1) := e1
    obtain ⟨v', h2, J2, f1, f2, f3, f4, f5, f6⟩ := e2 (ovL true v)
    rw [f1 rfl] at f2
    refine ⟨0, h1, am_u2 J1 303 0 (ovL true v), ?_, s1, v, h2, J2, up_Cl _ f2, f3, f5, f6, fun _ => f4⟩
    rw [q_L_string_0, (BO l.1.1).1, e1, e_clI]
    by_cases hv : v = 0
    · rw [if_pos hv, e_stA (s1.T 303 rfl) (by decide) (by decide), show ovL true v = 0 from if_pos hv]
      rfl
    · rw [if_neg hv, e_stA (s1.T 303 rfl) (by decide) (by decide), show ovL true v = 1 from if_neg hv]
      rfl
  · have e1 : Cl sc (d + 58) mX11_string [Vr (some 0), Vi x, Vi y] (hI h I) = some (.inr 3, hI h1 J1) := e1
    obtain ⟨v', h2, J2, f1, f2, f3, f4, f5, f6⟩ := e2 (J1 303 0)
    rw [u2_id] at f2
    refine ⟨cdB 3, h1, J1, ?_, s1, v', h2, J2, up_Cl _ f2, f3, f5, f6, fun z => absurd z (by decide)⟩
    rw [q_L_string_0, (BO l.1.1).1, e1, e_clIx]
    exact q_L_string_12 sc (d + 58) _ _ _ _ _ _
  · have e1 : Cl sc (d + 58) mX11_string [Vr (some 0), Vi x, Vi y] (hI h I) = some (.inr 5, hI h1 J1) := e1
    obtain ⟨v', h2, J2, f1, f2, f3, f4, f5, f6⟩ := e2 (J1 303 0)
    rw [u2_id] at f2
    refine ⟨cdB 5, h1, J1, ?_, s1, v', h2, J2, up_Cl _ f2, f3, f5, f6, fun z => absurd z (by decide)⟩
    rw [q_L_string_0, (BO l.1.1).1, e1, e_clIx]
    exact q_L_string_15 sc (d + 58) _ _ _ _ _ _
theorem w_again (l : LInv h I) : Wr h I (Cl sc (d + 59) mL_again [Vr (some 0), Vi x, Vi y, Vr (some 303)] (hI h I)) (Cl sc (d + 59) mX12_again [Vr (some 283), Vi x, Vi y]) false := by
  have p : Pub h I (Cl sc (d + 58) mX11_again [Vr (some 0), Vi x, Vi y]) (Cl sc (d + 58) mX12_again [Vr (some 283), Vi x, Vi y]) cdG := p_again l.1 (bb_county l.1.1 l.2 isC_now)
  obtain ⟨z, v, h1, J1, e0, e1, s1, e2⟩ := pubS l (by decide) (by decide) p
  have ex : exS mX11_again = [1, 3, 5] := by decide
  rw [ex] at e0
  have e0 : z = 0 ∨ z = 1 ∨ z = 3 ∨ z = 5 := by simpa using e0
  rcases e0 with rfl | rfl | rfl | rfl
  · have e1 : Cl sc (d + 58) mX11_again [Vr (some 0), Vi x, Vi y] (hI h I) = some (.inl (Vi v), hI h1 J1) := e1
    obtain ⟨v', h2, J2, f1, f2, f3, f4, f5, f6⟩ := e2 (ovL false v)
    rw [f1 rfl] at f2
    refine ⟨0, h1, am_u2 J1 303 0 (ovL false v), ?_, s1, v, h2, J2, up_Cl _ f2, f3, f5, f6, fun _ => f4⟩
    rw [q_L_again_0, (BO l.1.1).1, e1, e_clI, e_stA (s1.T 303 rfl) (by decide) (by decide)]
    rfl
  · have e1 : Cl sc (d + 58) mX11_again [Vr (some 0), Vi x, Vi y] (hI h I) = some (.inr 1, hI h1 J1) := e1
    obtain ⟨v', h2, J2, f1, f2, f3, f4, f5, f6⟩ := e2 (J1 303 0)
    rw [u2_id] at f2
    refine ⟨cdG 1, h1, J1, ?_, s1, v', h2, J2, up_Cl _ f2, f3, f5, f6, fun z => absurd z (by decide)⟩
    rw [q_L_again_0, (BO l.1.1).1, e1, e_clIx]
    exact q_L_again_12 sc (d + 58) _ _ _ _ _ _
  · have e1 : Cl sc (d + 58) mX11_again [Vr (some 0), Vi x, Vi y] (hI h I) = some (.inr 3, hI h1 J1) := e1
    obtain ⟨v', h2, J2, f1, f2, f3, f4, f5, f6⟩ := e2 (J1 303 0)
    rw [u2_id] at f2
    refine ⟨cdG 3, h1, J1, ?_, s1, v', h2, J2, up_Cl _ f2, f3, f5, f6, fun z => absurd z (by decide)⟩
    rw [q_L_again_0, (BO l.1.1).1, e1, e_clIx]
    exact q_L_again_9 sc (d + 58) _ _ _ _ _ _
  · have e1 : Cl sc (d + 58) mX11_again [Vr (some 0), Vi x, Vi y] (hI h I) = some (.inr 5, hI h1 J1) := e1
    obtain ⟨v', h2, J2, f1, f2, f3, f4, f5, f6⟩ := e2 (J1 303 0)
    rw [u2_id] at f2
    refine ⟨cdG 5, h1, J1, ?_, s1, v', h2, J2, up_Cl _ f2, f3, f5, f6, fun z => absurd z (by decide)⟩
    rw [q_L_again_0, (BO l.1.1).1, e1, e_clIx]
    exact q_L_again_15 sc (d + 58) _ _ _ _ _ _
theorem w_forgive (l : LInv h I) : Wr h I (Cl sc (d + 59) mL_forgive [Vr (some 0), Vi x, Vr (some 303)] (hI h I)) (Cl sc (d + 59) mX12_forgive [Vr (some 283), Vi x]) false := by
  have p : Pub h I (Cl sc (d + 58) mX11_forgive [Vr (some 0), Vi x]) (Cl sc (d + 58) mX12_forgive [Vr (some 283), Vi x]) cdA := p_forgive l.1 (bb_county l.1.1 l.2 isC_now)
  obtain ⟨z, v, h1, J1, e0, e1, s1, e2⟩ := pubS l (by decide) (by decide) p
  have ex : exS mX11_forgive = [3] := by decide
  rw [ex] at e0
  have e0 : z = 0 ∨ z = 3 := by simpa using e0
  rcases e0 with rfl | rfl
  · have e1 : Cl sc (d + 58) mX11_forgive [Vr (some 0), Vi x] (hI h I) = some (.inl (Vi v), hI h1 J1) := e1
    obtain ⟨v', h2, J2, f1, f2, f3, f4, f5, f6⟩ := e2 (ovL false v)
    rw [f1 rfl] at f2
    refine ⟨0, h1, am_u2 J1 303 0 (ovL false v), ?_, s1, v, h2, J2, up_Cl _ f2, f3, f5, f6, fun _ => f4⟩
    rw [q_L_forgive_0, (BO l.1.1).1, e1, e_clI, e_stA (s1.T 303 rfl) (by decide) (by decide)]
    rfl
  · have e1 : Cl sc (d + 58) mX11_forgive [Vr (some 0), Vi x] (hI h I) = some (.inr 3, hI h1 J1) := e1
    obtain ⟨v', h2, J2, f1, f2, f3, f4, f5, f6⟩ := e2 (J1 303 0)
    rw [u2_id] at f2
    refine ⟨cdA 3, h1, J1, ?_, s1, v', h2, J2, up_Cl _ f2, f3, f5, f6, fun z => absurd z (by decide)⟩
    rw [q_L_forgive_0, (BO l.1.1).1, e1, e_clIx]
    exact q_L_forgive_8 sc (d + 58) _ _ _ _ _
theorem w_move (l : LInv h I) : Wr h I (Cl sc (d + 59) mL_move [Vr (some 0), Vi x, Vi y, Vr (some 303)] (hI h I)) (Cl sc (d + 59) mX12_move [Vr (some 283), Vi x, Vi y]) false := by
  have p : Pub h I (Cl sc (d + 58) mX11_move [Vr (some 0), Vi x, Vi y]) (Cl sc (d + 58) mX12_move [Vr (some 283), Vi x, Vi y]) cdA := p_move l.1 (bb_county l.1.1 l.2 isC_now)
  obtain ⟨z, v, h1, J1, e0, e1, s1, e2⟩ := pubS l (by decide) (by decide) p
  have ex : exS mX11_move = [3] := by decide
  rw [ex] at e0
  have e0 : z = 0 ∨ z = 3 := by simpa using e0
  rcases e0 with rfl | rfl
  · have e1 : Cl sc (d + 58) mX11_move [Vr (some 0), Vi x, Vi y] (hI h I) = some (.inl (Vi v), hI h1 J1) := e1
    obtain ⟨v', h2, J2, f1, f2, f3, f4, f5, f6⟩ := e2 (ovL false v)
    rw [f1 rfl] at f2
    refine ⟨0, h1, am_u2 J1 303 0 (ovL false v), ?_, s1, v, h2, J2, up_Cl _ f2, f3, f5, f6, fun _ => f4⟩
    rw [q_L_move_0, (BO l.1.1).1, e1, e_clI, e_stA (s1.T 303 rfl) (by decide) (by decide)]
    rfl
  · have e1 : Cl sc (d + 58) mX11_move [Vr (some 0), Vi x, Vi y] (hI h I) = some (.inr 3, hI h1 J1) := e1
    obtain ⟨v', h2, J2, f1, f2, f3, f4, f5, f6⟩ := e2 (J1 303 0)
    rw [u2_id] at f2
    refine ⟨cdA 3, h1, J1, ?_, s1, v', h2, J2, up_Cl _ f2, f3, f5, f6, fun z => absurd z (by decide)⟩
    rw [q_L_move_0, (BO l.1.1).1, e1, e_clIx]
    exact q_L_move_9 sc (d + 58) _ _ _ _ _ _
theorem w_learn (l : LInv h I) : Wr h I (Cl sc (d + 59) mL_learn [Vr (some 0), Vi x, Vi y, Vr (some 303)] (hI h I)) (Cl sc (d + 59) mX12_learn [Vr (some 283), Vi x, Vi y]) false := by
  have p : Pub h I (Cl sc (d + 58) mX11_learn [Vr (some 0), Vi x, Vi y]) (Cl sc (d + 58) mX12_learn [Vr (some 283), Vi x, Vi y]) cdB := p_learn l.1 (bb_county l.1.1 l.2 isC_now)
  obtain ⟨z, v, h1, J1, e0, e1, s1, e2⟩ := pubS l (by decide) (by decide) p
  have ex : exS mX11_learn = [1, 3] := by decide
  rw [ex] at e0
  have e0 : z = 0 ∨ z = 1 ∨ z = 3 := by simpa using e0
  rcases e0 with rfl | rfl | rfl
  · have e1 : Cl sc (d + 58) mX11_learn [Vr (some 0), Vi x, Vi y] (hI h I) = some (.inl (Vi v), hI h1 J1) := e1
    obtain ⟨v', h2, J2, f1, f2, f3, f4, f5, f6⟩ := e2 (ovL false v)
    rw [f1 rfl] at f2
    refine ⟨0, h1, am_u2 J1 303 0 (ovL false v), ?_, s1, v, h2, J2, up_Cl _ f2, f3, f5, f6, fun _ => f4⟩
    rw [q_L_learn_0, (BO l.1.1).1, e1, e_clI, e_stA (s1.T 303 rfl) (by decide) (by decide)]
    rfl
  · have e1 : Cl sc (d + 58) mX11_learn [Vr (some 0), Vi x, Vi y] (hI h I) = some (.inr 1, hI h1 J1) := e1
    obtain ⟨v', h2, J2, f1, f2, f3, f4, f5, f6⟩ := e2 (J1 303 0)
    rw [u2_id] at f2
    refine ⟨cdB 1, h1, J1, ?_, s1, v', h2, J2, up_Cl _ f2, f3, f5, f6, fun z => absurd z (by decide)⟩
    rw [q_L_learn_0, (BO l.1.1).1, e1, e_clIx]
    exact q_L_learn_12 sc (d + 58) _ _ _ _ _ _
  · have e1 : Cl sc (d + 58) mX11_learn [Vr (some 0), Vi x, Vi y] (hI h I) = some (.inr 3, hI h1 J1) := e1
    obtain ⟨v', h2, J2, f1, f2, f3, f4, f5, f6⟩ := e2 (J1 303 0)
    rw [u2_id] at f2
    refine ⟨cdB 3, h1, J1, ?_, s1, v', h2, J2, up_Cl _ f2, f3, f5, f6, fun z => absurd z (by decide)⟩
    rw [q_L_learn_0, (BO l.1.1).1, e1, e_clIx]
    exact q_L_learn_9 sc (d + 58) _ _ _ _ _ _
theorem w_open (l : LInv h I) : Wr h I (Cl sc (d + 59) mL_open [Vr (some 0), Vi x, Vi y, Vr (some 303)] (hI h I)) (Cl sc (d + 59) mX12_open [Vr (some 283), Vi x, Vi y]) true := by
  have p : Pub h I (Cl sc (d + 58) mX11_open [Vr (some 0), Vi x, Vi y]) (Cl sc (d + 58) mX12_open [Vr (some 283), Vi x, Vi y]) cdB := p_open l.1
  obtain ⟨z, v, h1, J1, e0, e1, s1, e2⟩ := pubS l (by decide) (by decide) p
  have ex : exS mX11_open = [1, 3] := by decide
  rw [ex] at e0
  have e0 : z = 0 ∨ z = 1 ∨ z = 3 := by simpa using e0
  rcases e0 with rfl | rfl | rfl
  · have e1 : Cl sc (d + 58) mX11_open [Vr (some 0), Vi x, Vi y] (hI h I) = some (.inl (Vi v), hI h1 J1) := e1
    obtain ⟨v', h2, J2, f1, f2, f3, f4, f5, f6⟩ := e2 (ovL true v)
    rw [f1 rfl] at f2
    refine ⟨0, h1, am_u2 J1 303 0 (ovL true v), ?_, s1, v, h2, J2, up_Cl _ f2, f3, f5, f6, fun _ => f4⟩
    rw [q_L_open_0, (BO l.1.1).1, e1, e_clI]
    by_cases hv : v = 0
    · rw [if_pos hv, e_stA (s1.T 303 rfl) (by decide) (by decide), show ovL true v = 0 from if_pos hv]
      rfl
    · rw [if_neg hv, e_stA (s1.T 303 rfl) (by decide) (by decide), show ovL true v = 1 from if_neg hv]
      rfl
  · have e1 : Cl sc (d + 58) mX11_open [Vr (some 0), Vi x, Vi y] (hI h I) = some (.inr 1, hI h1 J1) := e1
    obtain ⟨v', h2, J2, f1, f2, f3, f4, f5, f6⟩ := e2 (J1 303 0)
    rw [u2_id] at f2
    refine ⟨cdB 1, h1, J1, ?_, s1, v', h2, J2, up_Cl _ f2, f3, f5, f6, fun z => absurd z (by decide)⟩
    rw [q_L_open_0, (BO l.1.1).1, e1, e_clIx]
    exact q_L_open_15 sc (d + 58) _ _ _ _ _ _
  · have e1 : Cl sc (d + 58) mX11_open [Vr (some 0), Vi x, Vi y] (hI h I) = some (.inr 3, hI h1 J1) := e1
    obtain ⟨v', h2, J2, f1, f2, f3, f4, f5, f6⟩ := e2 (J1 303 0)
    rw [u2_id] at f2
    refine ⟨cdB 3, h1, J1, ?_, s1, v', h2, J2, up_Cl _ f2, f3, f5, f6, fun z => absurd z (by decide)⟩
    rw [q_L_open_0, (BO l.1.1).1, e1, e_clIx]
    exact q_L_open_12 sc (d + 58) _ _ _ _ _ _
theorem w_far (l : LInv h I) : Wr h I (Cl sc (d + 59) mL_far [Vr (some 0), Vi x, Vi y, Vr (some 303)] (hI h I)) (Cl sc (d + 59) mX12_far [Vr (some 283), Vi x, Vi y]) false := by
  have p : Pub h I (Cl sc (d + 58) mX11_far [Vr (some 0), Vi x, Vi y]) (Cl sc (d + 58) mX12_far [Vr (some 283), Vi x, Vi y]) cdA := p_far l.1
  obtain ⟨z, v, h1, J1, e0, e1, s1, e2⟩ := pubS l (by decide) (by decide) p
  have ex : exS mX11_far = [3] := by decide
  rw [ex] at e0
  have e0 : z = 0 ∨ z = 3 := by simpa using e0
  rcases e0 with rfl | rfl
  · have e1 : Cl sc (d + 58) mX11_far [Vr (some 0), Vi x, Vi y] (hI h I) = some (.inl (Vi v), hI h1 J1) := e1
    obtain ⟨v', h2, J2, f1, f2, f3, f4, f5, f6⟩ := e2 (ovL false v)
    rw [f1 rfl] at f2
    refine ⟨0, h1, am_u2 J1 303 0 (ovL false v), ?_, s1, v, h2, J2, up_Cl _ f2, f3, f5, f6, fun _ => f4⟩
    rw [q_L_far_0, (BO l.1.1).1, e1, e_clI, e_stA (s1.T 303 rfl) (by decide) (by decide)]
    rfl
  · have e1 : Cl sc (d + 58) mX11_far [Vr (some 0), Vi x, Vi y] (hI h I) = some (.inr 3, hI h1 J1) := e1
    obtain ⟨v', h2, J2, f1, f2, f3, f4, f5, f6⟩ := e2 (J1 303 0)
    rw [u2_id] at f2
    refine ⟨cdA 3, h1, J1, ?_, s1, v', h2, J2, up_Cl _ f2, f3, f5, f6, fun z => absurd z (by decide)⟩
    rw [q_L_far_0, (BO l.1.1).1, e1, e_clIx]
    exact q_L_far_9 sc (d + 58) _ _ _ _ _ _
theorem w_meet (l : LInv h I) : Wr h I (Cl sc (d + 59) mL_meet [Vr (some 0), Vi x, Vi y, Vr (some 303)] (hI h I)) (Cl sc (d + 59) mX12_meet [Vr (some 283), Vi x, Vi y]) true := by
  have p : Pub h I (Cl sc (d + 58) mX11_meet [Vr (some 0), Vi x, Vi y]) (Cl sc (d + 58) mX12_meet [Vr (some 283), Vi x, Vi y]) cdB := p_meet l.1
  obtain ⟨z, v, h1, J1, e0, e1, s1, e2⟩ := pubS l (by decide) (by decide) p
  have ex : exS mX11_meet = [1, 3] := by decide
  rw [ex] at e0
  have e0 : z = 0 ∨ z = 1 ∨ z = 3 := by simpa using e0
  rcases e0 with rfl | rfl | rfl
  · have e1 : Cl sc (d + 58) mX11_meet [Vr (some 0), Vi x, Vi y] (hI h I) = some (.inl (Vi v), hI h1 J1) := e1
    obtain ⟨v', h2, J2, f1, f2, f3, f4, f5, f6⟩ := e2 (ovL true v)
    rw [f1 rfl] at f2
    refine ⟨0, h1, am_u2 J1 303 0 (ovL true v), ?_, s1, v, h2, J2, up_Cl _ f2, f3, f5, f6, fun _ => f4⟩
    rw [q_L_meet_0, (BO l.1.1).1, e1, e_clI]
    by_cases hv : v = 0
    · rw [if_pos hv, e_stA (s1.T 303 rfl) (by decide) (by decide), show ovL true v = 0 from if_pos hv]
      rfl
    · rw [if_neg hv, e_stA (s1.T 303 rfl) (by decide) (by decide), show ovL true v = 1 from if_neg hv]
      rfl
  · have e1 : Cl sc (d + 58) mX11_meet [Vr (some 0), Vi x, Vi y] (hI h I) = some (.inr 1, hI h1 J1) := e1
    obtain ⟨v', h2, J2, f1, f2, f3, f4, f5, f6⟩ := e2 (J1 303 0)
    rw [u2_id] at f2
    refine ⟨cdB 1, h1, J1, ?_, s1, v', h2, J2, up_Cl _ f2, f3, f5, f6, fun z => absurd z (by decide)⟩
    rw [q_L_meet_0, (BO l.1.1).1, e1, e_clIx]
    exact q_L_meet_15 sc (d + 58) _ _ _ _ _ _
  · have e1 : Cl sc (d + 58) mX11_meet [Vr (some 0), Vi x, Vi y] (hI h I) = some (.inr 3, hI h1 J1) := e1
    obtain ⟨v', h2, J2, f1, f2, f3, f4, f5, f6⟩ := e2 (J1 303 0)
    rw [u2_id] at f2
    refine ⟨cdB 3, h1, J1, ?_, s1, v', h2, J2, up_Cl _ f2, f3, f5, f6, fun z => absurd z (by decide)⟩
    rw [q_L_meet_0, (BO l.1.1).1, e1, e_clIx]
    exact q_L_meet_12 sc (d + 58) _ _ _ _ _ _
theorem w_halfway (l : LInv h I) : Wr h I (Cl sc (d + 59) mL_halfway [Vr (some 0), Vi x, Vi y, Vr (some 303)] (hI h I)) (Cl sc (d + 59) mX12_halfway [Vr (some 283), Vi x, Vi y]) false := by
  have p : Pub h I (Cl sc (d + 58) mX11_halfway [Vr (some 0), Vi x, Vi y]) (Cl sc (d + 58) mX12_halfway [Vr (some 283), Vi x, Vi y]) cdB := p_halfway l.1
  obtain ⟨z, v, h1, J1, e0, e1, s1, e2⟩ := pubS l (by decide) (by decide) p
  have ex : exS mX11_halfway = [1, 3] := by decide
  rw [ex] at e0
  have e0 : z = 0 ∨ z = 1 ∨ z = 3 := by simpa using e0
  rcases e0 with rfl | rfl | rfl
  · have e1 : Cl sc (d + 58) mX11_halfway [Vr (some 0), Vi x, Vi y] (hI h I) = some (.inl (Vi v), hI h1 J1) := e1
    obtain ⟨v', h2, J2, f1, f2, f3, f4, f5, f6⟩ := e2 (ovL false v)
    rw [f1 rfl] at f2
    refine ⟨0, h1, am_u2 J1 303 0 (ovL false v), ?_, s1, v, h2, J2, up_Cl _ f2, f3, f5, f6, fun _ => f4⟩
    rw [q_L_halfway_0, (BO l.1.1).1, e1, e_clI, e_stA (s1.T 303 rfl) (by decide) (by decide)]
    rfl
  · have e1 : Cl sc (d + 58) mX11_halfway [Vr (some 0), Vi x, Vi y] (hI h I) = some (.inr 1, hI h1 J1) := e1
    obtain ⟨v', h2, J2, f1, f2, f3, f4, f5, f6⟩ := e2 (J1 303 0)
    rw [u2_id] at f2
    refine ⟨cdB 1, h1, J1, ?_, s1, v', h2, J2, up_Cl _ f2, f3, f5, f6, fun z => absurd z (by decide)⟩
    rw [q_L_halfway_0, (BO l.1.1).1, e1, e_clIx]
    exact q_L_halfway_12 sc (d + 58) _ _ _ _ _ _
  · have e1 : Cl sc (d + 58) mX11_halfway [Vr (some 0), Vi x, Vi y] (hI h I) = some (.inr 3, hI h1 J1) := e1
    obtain ⟨v', h2, J2, f1, f2, f3, f4, f5, f6⟩ := e2 (J1 303 0)
    rw [u2_id] at f2
    refine ⟨cdB 3, h1, J1, ?_, s1, v', h2, J2, up_Cl _ f2, f3, f5, f6, fun z => absurd z (by decide)⟩
    rw [q_L_halfway_0, (BO l.1.1).1, e1, e_clIx]
    exact q_L_halfway_9 sc (d + 58) _ _ _ _ _ _
theorem w_sees (l : LInv h I) : Wr h I (Cl sc (d + 59) mL_sees [Vr (some 0), Vi x, Vi y, Vr (some 303)] (hI h I)) (Cl sc (d + 59) mX12_sees [Vr (some 283), Vi x, Vi y]) true := by
  have p : Pub h I (Cl sc (d + 58) mX11_sees [Vr (some 0), Vi x, Vi y]) (Cl sc (d + 58) mX12_sees [Vr (some 283), Vi x, Vi y]) cdA := p_sees l.1
  obtain ⟨z, v, h1, J1, e0, e1, s1, e2⟩ := pubS l (by decide) (by decide) p
  have ex : exS mX11_sees = [3] := by decide
  rw [ex] at e0
  have e0 : z = 0 ∨ z = 3 := by simpa using e0
  rcases e0 with rfl | rfl
  · have e1 : Cl sc (d + 58) mX11_sees [Vr (some 0), Vi x, Vi y] (hI h I) = some (.inl (Vi v), hI h1 J1) := e1
    obtain ⟨v', h2, J2, f1, f2, f3, f4, f5, f6⟩ := e2 (ovL true v)
    rw [f1 rfl] at f2
    refine ⟨0, h1, am_u2 J1 303 0 (ovL true v), ?_, s1, v, h2, J2, up_Cl _ f2, f3, f5, f6, fun _ => f4⟩
    rw [q_L_sees_0, (BO l.1.1).1, e1, e_clI]
    by_cases hv : v = 0
    · rw [if_pos hv, e_stA (s1.T 303 rfl) (by decide) (by decide), show ovL true v = 0 from if_pos hv]
      rfl
    · rw [if_neg hv, e_stA (s1.T 303 rfl) (by decide) (by decide), show ovL true v = 1 from if_neg hv]
      rfl
  · have e1 : Cl sc (d + 58) mX11_sees [Vr (some 0), Vi x, Vi y] (hI h I) = some (.inr 3, hI h1 J1) := e1
    obtain ⟨v', h2, J2, f1, f2, f3, f4, f5, f6⟩ := e2 (J1 303 0)
    rw [u2_id] at f2
    refine ⟨cdA 3, h1, J1, ?_, s1, v', h2, J2, up_Cl _ f2, f3, f5, f6, fun z => absurd z (by decide)⟩
    rw [q_L_sees_0, (BO l.1.1).1, e1, e_clIx]
    exact q_L_sees_12 sc (d + 58) _ _ _ _ _ _
theorem w_pulls (l : LInv h I) : Wr h I (Cl sc (d + 59) mL_pulls [Vr (some 0), Vi x, Vi y, Vi z, Vr (some 303)] (hI h I)) (Cl sc (d + 59) mX12_pulls [Vr (some 283), Vi x, Vi y, Vi z]) false := by
  have p : Pub h I (Cl sc (d + 58) mX11_pulls [Vr (some 0), Vi x, Vi y, Vi z]) (Cl sc (d + 58) mX12_pulls [Vr (some 283), Vi x, Vi y, Vi z]) cdB := p_pulls l.1
  obtain ⟨z, v, h1, J1, e0, e1, s1, e2⟩ := pubS l (by decide) (by decide) p
  have ex : exS mX11_pulls = [1, 3] := by decide
  rw [ex] at e0
  have e0 : z = 0 ∨ z = 1 ∨ z = 3 := by simpa using e0
  rcases e0 with rfl | rfl | rfl
  · have e1 : Cl sc (d + 58) mX11_pulls [Vr (some 0), Vi x, Vi y, Vi z] (hI h I) = some (.inl (Vi v), hI h1 J1) := e1
    obtain ⟨v', h2, J2, f1, f2, f3, f4, f5, f6⟩ := e2 (ovL false v)
    rw [f1 rfl] at f2
    refine ⟨0, h1, am_u2 J1 303 0 (ovL false v), ?_, s1, v, h2, J2, up_Cl _ f2, f3, f5, f6, fun _ => f4⟩
    rw [q_L_pulls_0, (BO l.1.1).1, e1, e_clI, e_stA (s1.T 303 rfl) (by decide) (by decide)]
    rfl
  · have e1 : Cl sc (d + 58) mX11_pulls [Vr (some 0), Vi x, Vi y, Vi z] (hI h I) = some (.inr 1, hI h1 J1) := e1
    obtain ⟨v', h2, J2, f1, f2, f3, f4, f5, f6⟩ := e2 (J1 303 0)
    rw [u2_id] at f2
    refine ⟨cdB 1, h1, J1, ?_, s1, v', h2, J2, up_Cl _ f2, f3, f5, f6, fun z => absurd z (by decide)⟩
    rw [q_L_pulls_0, (BO l.1.1).1, e1, e_clIx]
    exact q_L_pulls_13 sc (d + 58) _ _ _ _ _ _ _
  · have e1 : Cl sc (d + 58) mX11_pulls [Vr (some 0), Vi x, Vi y, Vi z] (hI h I) = some (.inr 3, hI h1 J1) := e1
    obtain ⟨v', h2, J2, f1, f2, f3, f4, f5, f6⟩ := e2 (J1 303 0)
    rw [u2_id] at f2
    refine ⟨cdB 3, h1, J1, ?_, s1, v', h2, J2, up_Cl _ f2, f3, f5, f6, fun z => absurd z (by decide)⟩
    rw [q_L_pulls_0, (BO l.1.1).1, e1, e_clIx]
    exact q_L_pulls_10 sc (d + 58) _ _ _ _ _ _ _
theorem w_lowest (l : LInv h I) : Wr h I (Cl sc (d + 59) mL_lowest [Vr (some 0), Vi x, Vi y, Vr (some 303)] (hI h I)) (Cl sc (d + 59) mX12_lowest [Vr (some 283), Vi x, Vi y]) false := by
  have p : Pub h I (Cl sc (d + 58) mX11_lowest [Vr (some 0), Vi x, Vi y]) (Cl sc (d + 58) mX12_lowest [Vr (some 283), Vi x, Vi y]) cdA := p_lowest l.1
  obtain ⟨z, v, h1, J1, e0, e1, s1, e2⟩ := pubS l (by decide) (by decide) p
  have ex : exS mX11_lowest = [3] := by decide
  rw [ex] at e0
  have e0 : z = 0 ∨ z = 3 := by simpa using e0
  rcases e0 with rfl | rfl
  · have e1 : Cl sc (d + 58) mX11_lowest [Vr (some 0), Vi x, Vi y] (hI h I) = some (.inl (Vi v), hI h1 J1) := e1
    obtain ⟨v', h2, J2, f1, f2, f3, f4, f5, f6⟩ := e2 (ovL false v)
    rw [f1 rfl] at f2
    refine ⟨0, h1, am_u2 J1 303 0 (ovL false v), ?_, s1, v, h2, J2, up_Cl _ f2, f3, f5, f6, fun _ => f4⟩
    rw [q_L_lowest_0, (BO l.1.1).1, e1, e_clI, e_stA (s1.T 303 rfl) (by decide) (by decide)]
    rfl
  · have e1 : Cl sc (d + 58) mX11_lowest [Vr (some 0), Vi x, Vi y] (hI h I) = some (.inr 3, hI h1 J1) := e1
    obtain ⟨v', h2, J2, f1, f2, f3, f4, f5, f6⟩ := e2 (J1 303 0)
    rw [u2_id] at f2
    refine ⟨cdA 3, h1, J1, ?_, s1, v', h2, J2, up_Cl _ f2, f3, f5, f6, fun z => absurd z (by decide)⟩
    rw [q_L_lowest_0, (BO l.1.1).1, e1, e_clIx]
    exact q_L_lowest_9 sc (d + 58) _ _ _ _ _ _
theorem w_closes (l : LInv h I) : Wr h I (Cl sc (d + 59) mL_closes [Vr (some 0), Vi x, Vi y, Vi z, Vr (some 303)] (hI h I)) (Cl sc (d + 59) mX12_closes [Vr (some 283), Vi x, Vi y, Vi z]) false := by
  have p : Pub h I (Cl sc (d + 58) mX11_closes [Vr (some 0), Vi x, Vi y, Vi z]) (Cl sc (d + 58) mX12_closes [Vr (some 283), Vi x, Vi y, Vi z]) cdB := p_closes l.1
  obtain ⟨z, v, h1, J1, e0, e1, s1, e2⟩ := pubS l (by decide) (by decide) p
  have ex : exS mX11_closes = [1, 3] := by decide
  rw [ex] at e0
  have e0 : z = 0 ∨ z = 1 ∨ z = 3 := by simpa using e0
  rcases e0 with rfl | rfl | rfl
  · have e1 : Cl sc (d + 58) mX11_closes [Vr (some 0), Vi x, Vi y, Vi z] (hI h I) = some (.inl (Vi v), hI h1 J1) := e1
    obtain ⟨v', h2, J2, f1, f2, f3, f4, f5, f6⟩ := e2 (ovL false v)
    rw [f1 rfl] at f2
    refine ⟨0, h1, am_u2 J1 303 0 (ovL false v), ?_, s1, v, h2, J2, up_Cl _ f2, f3, f5, f6, fun _ => f4⟩
    rw [q_L_closes_0, (BO l.1.1).1, e1, e_clI, e_stA (s1.T 303 rfl) (by decide) (by decide)]
    rfl
  · have e1 : Cl sc (d + 58) mX11_closes [Vr (some 0), Vi x, Vi y, Vi z] (hI h I) = some (.inr 1, hI h1 J1) := e1
    obtain ⟨v', h2, J2, f1, f2, f3, f4, f5, f6⟩ := e2 (J1 303 0)
    rw [u2_id] at f2
    refine ⟨cdB 1, h1, J1, ?_, s1, v', h2, J2, up_Cl _ f2, f3, f5, f6, fun z => absurd z (by decide)⟩
    rw [q_L_closes_0, (BO l.1.1).1, e1, e_clIx]
    exact q_L_closes_13 sc (d + 58) _ _ _ _ _ _ _
  · have e1 : Cl sc (d + 58) mX11_closes [Vr (some 0), Vi x, Vi y, Vi z] (hI h I) = some (.inr 3, hI h1 J1) := e1
    obtain ⟨v', h2, J2, f1, f2, f3, f4, f5, f6⟩ := e2 (J1 303 0)
    rw [u2_id] at f2
    refine ⟨cdB 3, h1, J1, ?_, s1, v', h2, J2, up_Cl _ f2, f3, f5, f6, fun z => absurd z (by decide)⟩
    rw [q_L_closes_0, (BO l.1.1).1, e1, e_clIx]
    exact q_L_closes_10 sc (d + 58) _ _ _ _ _ _ _
theorem w_lands (l : LInv h I) : Wr h I (Cl sc (d + 59) mL_lands [Vr (some 0), Vi x, Vr (some 303)] (hI h I)) (Cl sc (d + 59) mX12_lands [Vr (some 283), Vi x]) false := by
  have p : Pub h I (Cl sc (d + 58) mX11_lands [Vr (some 0), Vi x]) (Cl sc (d + 58) mX12_lands [Vr (some 283), Vi x]) cdA := p_lands l.1
  obtain ⟨z, v, h1, J1, e0, e1, s1, e2⟩ := pubS l (by decide) (by decide) p
  have ex : exS mX11_lands = [1] := by decide
  rw [ex] at e0
  have e0 : z = 0 ∨ z = 1 := by simpa using e0
  rcases e0 with rfl | rfl
  · have e1 : Cl sc (d + 58) mX11_lands [Vr (some 0), Vi x] (hI h I) = some (.inl (Vi v), hI h1 J1) := e1
    obtain ⟨v', h2, J2, f1, f2, f3, f4, f5, f6⟩ := e2 (ovL false v)
    rw [f1 rfl] at f2
    refine ⟨0, h1, am_u2 J1 303 0 (ovL false v), ?_, s1, v, h2, J2, up_Cl _ f2, f3, f5, f6, fun _ => f4⟩
    rw [q_L_lands_0, (BO l.1.1).1, e1, e_clI, e_stA (s1.T 303 rfl) (by decide) (by decide)]
    rfl
  · have e1 : Cl sc (d + 58) mX11_lands [Vr (some 0), Vi x] (hI h I) = some (.inr 1, hI h1 J1) := e1
    obtain ⟨v', h2, J2, f1, f2, f3, f4, f5, f6⟩ := e2 (J1 303 0)
    rw [u2_id] at f2
    refine ⟨cdA 1, h1, J1, ?_, s1, v', h2, J2, up_Cl _ f2, f3, f5, f6, fun z => absurd z (by decide)⟩
    rw [q_L_lands_0, (BO l.1.1).1, e1, e_clIx]
    exact q_L_lands_8 sc (d + 58) _ _ _ _ _
theorem w_wide (l : LInv h I) : Wr h I (Cl sc (d + 59) mL_wide [Vr (some 0), Vi x, Vr (some 303)] (hI h I)) (Cl sc (d + 59) mX12_wide [Vr (some 283), Vi x]) false := by
  have p : Pub h I (Cl sc (d + 58) mX11_wide [Vr (some 0), Vi x]) (Cl sc (d + 58) mX12_wide [Vr (some 283), Vi x]) cdA := p_wide l.1
  obtain ⟨z, v, h1, J1, e0, e1, s1, e2⟩ := pubS l (by decide) (by decide) p
  have ex : exS mX11_wide = [1] := by decide
  rw [ex] at e0
  have e0 : z = 0 ∨ z = 1 := by simpa using e0
  rcases e0 with rfl | rfl
  · have e1 : Cl sc (d + 58) mX11_wide [Vr (some 0), Vi x] (hI h I) = some (.inl (Vi v), hI h1 J1) := e1
    obtain ⟨v', h2, J2, f1, f2, f3, f4, f5, f6⟩ := e2 (ovL false v)
    rw [f1 rfl] at f2
    refine ⟨0, h1, am_u2 J1 303 0 (ovL false v), ?_, s1, v, h2, J2, up_Cl _ f2, f3, f5, f6, fun _ => f4⟩
    rw [q_L_wide_0, (BO l.1.1).1, e1, e_clI, e_stA (s1.T 303 rfl) (by decide) (by decide)]
    rfl
  · have e1 : Cl sc (d + 58) mX11_wide [Vr (some 0), Vi x] (hI h I) = some (.inr 1, hI h1 J1) := e1
    obtain ⟨v', h2, J2, f1, f2, f3, f4, f5, f6⟩ := e2 (J1 303 0)
    rw [u2_id] at f2
    refine ⟨cdA 1, h1, J1, ?_, s1, v', h2, J2, up_Cl _ f2, f3, f5, f6, fun z => absurd z (by decide)⟩
    rw [q_L_wide_0, (BO l.1.1).1, e1, e_clIx]
    exact q_L_wide_8 sc (d + 58) _ _ _ _ _
theorem w_land (l : LInv h I) : Wr h I (Cl sc (d + 59) mL_land [Vr (some 0), Vi x, Vi y, Vr (some 303)] (hI h I)) (Cl sc (d + 59) mX12_land [Vr (some 283), Vi x, Vi y]) false := by
  have p : Pub h I (Cl sc (d + 58) mX11_land [Vr (some 0), Vi x, Vi y]) (Cl sc (d + 58) mX12_land [Vr (some 283), Vi x, Vi y]) cdB := p_land l.1
  obtain ⟨z, v, h1, J1, e0, e1, s1, e2⟩ := pubS l (by decide) (by decide) p
  have ex : exS mX11_land = [1, 3] := by decide
  rw [ex] at e0
  have e0 : z = 0 ∨ z = 1 ∨ z = 3 := by simpa using e0
  rcases e0 with rfl | rfl | rfl
  · have e1 : Cl sc (d + 58) mX11_land [Vr (some 0), Vi x, Vi y] (hI h I) = some (.inl (Vi v), hI h1 J1) := e1
    obtain ⟨v', h2, J2, f1, f2, f3, f4, f5, f6⟩ := e2 (ovL false v)
    rw [f1 rfl] at f2
    refine ⟨0, h1, am_u2 J1 303 0 (ovL false v), ?_, s1, v, h2, J2, up_Cl _ f2, f3, f5, f6, fun _ => f4⟩
    rw [q_L_land_0, (BO l.1.1).1, e1, e_clI, e_stA (s1.T 303 rfl) (by decide) (by decide)]
    rfl
  · have e1 : Cl sc (d + 58) mX11_land [Vr (some 0), Vi x, Vi y] (hI h I) = some (.inr 1, hI h1 J1) := e1
    obtain ⟨v', h2, J2, f1, f2, f3, f4, f5, f6⟩ := e2 (J1 303 0)
    rw [u2_id] at f2
    refine ⟨cdB 1, h1, J1, ?_, s1, v', h2, J2, up_Cl _ f2, f3, f5, f6, fun z => absurd z (by decide)⟩
    rw [q_L_land_0, (BO l.1.1).1, e1, e_clIx]
    exact q_L_land_12 sc (d + 58) _ _ _ _ _ _
  · have e1 : Cl sc (d + 58) mX11_land [Vr (some 0), Vi x, Vi y] (hI h I) = some (.inr 3, hI h1 J1) := e1
    obtain ⟨v', h2, J2, f1, f2, f3, f4, f5, f6⟩ := e2 (J1 303 0)
    rw [u2_id] at f2
    refine ⟨cdB 3, h1, J1, ?_, s1, v', h2, J2, up_Cl _ f2, f3, f5, f6, fun z => absurd z (by decide)⟩
    rw [q_L_land_0, (BO l.1.1).1, e1, e_clIx]
    exact q_L_land_9 sc (d + 58) _ _ _ _ _ _
theorem w_gaps (l : LInv h I) : Wr h I (Cl sc (d + 59) mL_gaps [Vr (some 0), Vi x, Vr (some 303)] (hI h I)) (Cl sc (d + 59) mX12_gaps [Vr (some 283), Vi x]) false := by
  have p : Pub h I (Cl sc (d + 58) mX11_gaps [Vr (some 0), Vi x]) (Cl sc (d + 58) mX12_gaps [Vr (some 283), Vi x]) cdA := p_gaps l.1
  obtain ⟨z, v, h1, J1, e0, e1, s1, e2⟩ := pubS l (by decide) (by decide) p
  have ex : exS mX11_gaps = [1] := by decide
  rw [ex] at e0
  have e0 : z = 0 ∨ z = 1 := by simpa using e0
  rcases e0 with rfl | rfl
  · have e1 : Cl sc (d + 58) mX11_gaps [Vr (some 0), Vi x] (hI h I) = some (.inl (Vi v), hI h1 J1) := e1
    obtain ⟨v', h2, J2, f1, f2, f3, f4, f5, f6⟩ := e2 (ovL false v)
    rw [f1 rfl] at f2
    refine ⟨0, h1, am_u2 J1 303 0 (ovL false v), ?_, s1, v, h2, J2, up_Cl _ f2, f3, f5, f6, fun _ => f4⟩
    rw [q_L_gaps_0, (BO l.1.1).1, e1, e_clI, e_stA (s1.T 303 rfl) (by decide) (by decide)]
    rfl
  · have e1 : Cl sc (d + 58) mX11_gaps [Vr (some 0), Vi x] (hI h I) = some (.inr 1, hI h1 J1) := e1
    obtain ⟨v', h2, J2, f1, f2, f3, f4, f5, f6⟩ := e2 (J1 303 0)
    rw [u2_id] at f2
    refine ⟨cdA 1, h1, J1, ?_, s1, v', h2, J2, up_Cl _ f2, f3, f5, f6, fun z => absurd z (by decide)⟩
    rw [q_L_gaps_0, (BO l.1.1).1, e1, e_clIx]
    exact q_L_gaps_8 sc (d + 58) _ _ _ _ _
theorem w_all (l : LInv h I) : Wr h I (Cl sc (d + 59) mL_all [Vr (some 0), Vi x, Vr (some 303)] (hI h I)) (Cl sc (d + 59) mX12_all [Vr (some 283), Vi x]) true := by
  have p : Pub h I (Cl sc (d + 58) mX11_all [Vr (some 0), Vi x]) (Cl sc (d + 58) mX12_all [Vr (some 283), Vi x]) cdA := p_all l.1
  obtain ⟨z, v, h1, J1, e0, e1, s1, e2⟩ := pubS l (by decide) (by decide) p
  have ex : exS mX11_all = [1] := by decide
  rw [ex] at e0
  have e0 : z = 0 ∨ z = 1 := by simpa using e0
  rcases e0 with rfl | rfl
  · have e1 : Cl sc (d + 58) mX11_all [Vr (some 0), Vi x] (hI h I) = some (.inl (Vi v), hI h1 J1) := e1
    obtain ⟨v', h2, J2, f1, f2, f3, f4, f5, f6⟩ := e2 (ovL true v)
    rw [f1 rfl] at f2
    refine ⟨0, h1, am_u2 J1 303 0 (ovL true v), ?_, s1, v, h2, J2, up_Cl _ f2, f3, f5, f6, fun _ => f4⟩
    rw [q_L_all_0, (BO l.1.1).1, e1, e_clI]
    by_cases hv : v = 0
    · rw [if_pos hv, e_stA (s1.T 303 rfl) (by decide) (by decide), show ovL true v = 0 from if_pos hv]
      rfl
    · rw [if_neg hv, e_stA (s1.T 303 rfl) (by decide) (by decide), show ovL true v = 1 from if_neg hv]
      rfl
  · have e1 : Cl sc (d + 58) mX11_all [Vr (some 0), Vi x] (hI h I) = some (.inr 1, hI h1 J1) := e1
    obtain ⟨v', h2, J2, f1, f2, f3, f4, f5, f6⟩ := e2 (J1 303 0)
    rw [u2_id] at f2
    refine ⟨cdA 1, h1, J1, ?_, s1, v', h2, J2, up_Cl _ f2, f3, f5, f6, fun z => absurd z (by decide)⟩
    rw [q_L_all_0, (BO l.1.1).1, e1, e_clIx]
    exact q_L_all_11 sc (d + 58) _ _ _ _ _
theorem w_one (l : LInv h I) : Wr h I (Cl sc (d + 59) mL_one [Vr (some 0), Vi x, Vi y, Vr (some 303)] (hI h I)) (Cl sc (d + 59) mX12_one [Vr (some 283), Vi x, Vi y]) false := by
  have p : Pub h I (Cl sc (d + 58) mX11_one [Vr (some 0), Vi x, Vi y]) (Cl sc (d + 58) mX12_one [Vr (some 283), Vi x, Vi y]) cdA := p_one l.1
  obtain ⟨z, v, h1, J1, e0, e1, s1, e2⟩ := pubS l (by decide) (by decide) p
  have ex : exS mX11_one = [3] := by decide
  rw [ex] at e0
  have e0 : z = 0 ∨ z = 3 := by simpa using e0
  rcases e0 with rfl | rfl
  · have e1 : Cl sc (d + 58) mX11_one [Vr (some 0), Vi x, Vi y] (hI h I) = some (.inl (Vi v), hI h1 J1) := e1
    obtain ⟨v', h2, J2, f1, f2, f3, f4, f5, f6⟩ := e2 (ovL false v)
    rw [f1 rfl] at f2
    refine ⟨0, h1, am_u2 J1 303 0 (ovL false v), ?_, s1, v, h2, J2, up_Cl _ f2, f3, f5, f6, fun _ => f4⟩
    rw [q_L_one_0, (BO l.1.1).1, e1, e_clI, e_stA (s1.T 303 rfl) (by decide) (by decide)]
    rfl
  · have e1 : Cl sc (d + 58) mX11_one [Vr (some 0), Vi x, Vi y] (hI h I) = some (.inr 3, hI h1 J1) := e1
    obtain ⟨v', h2, J2, f1, f2, f3, f4, f5, f6⟩ := e2 (J1 303 0)
    rw [u2_id] at f2
    refine ⟨cdA 3, h1, J1, ?_, s1, v', h2, J2, up_Cl _ f2, f3, f5, f6, fun z => absurd z (by decide)⟩
    rw [q_L_one_0, (BO l.1.1).1, e1, e_clIx]
    exact q_L_one_9 sc (d + 58) _ _ _ _ _ _
theorem w_walk (l : LInv h I) : Wr h I (Cl sc (d + 59) mL_walk [Vr (some 0), Vi x, Vi y, Vi z, Vr (some 303)] (hI h I)) (Cl sc (d + 59) mX12_walk [Vr (some 283), Vi x, Vi y, Vi z]) false := by
  have p : Pub h I (Cl sc (d + 58) mX11_walk [Vr (some 0), Vi x, Vi y, Vi z]) (Cl sc (d + 58) mX12_walk [Vr (some 283), Vi x, Vi y, Vi z]) cdB := p_walk l.1
  obtain ⟨z, v, h1, J1, e0, e1, s1, e2⟩ := pubS l (by decide) (by decide) p
  have ex : exS mX11_walk = [1, 3] := by decide
  rw [ex] at e0
  have e0 : z = 0 ∨ z = 1 ∨ z = 3 := by simpa using e0
  rcases e0 with rfl | rfl | rfl
  · have e1 : Cl sc (d + 58) mX11_walk [Vr (some 0), Vi x, Vi y, Vi z] (hI h I) = some (.inl (Vi v), hI h1 J1) := e1
    obtain ⟨v', h2, J2, f1, f2, f3, f4, f5, f6⟩ := e2 (ovL false v)
    rw [f1 rfl] at f2
    refine ⟨0, h1, am_u2 J1 303 0 (ovL false v), ?_, s1, v, h2, J2, up_Cl _ f2, f3, f5, f6, fun _ => f4⟩
    rw [q_L_walk_0, (BO l.1.1).1, e1, e_clI, e_stA (s1.T 303 rfl) (by decide) (by decide)]
    rfl
  · have e1 : Cl sc (d + 58) mX11_walk [Vr (some 0), Vi x, Vi y, Vi z] (hI h I) = some (.inr 1, hI h1 J1) := e1
    obtain ⟨v', h2, J2, f1, f2, f3, f4, f5, f6⟩ := e2 (J1 303 0)
    rw [u2_id] at f2
    refine ⟨cdB 1, h1, J1, ?_, s1, v', h2, J2, up_Cl _ f2, f3, f5, f6, fun z => absurd z (by decide)⟩
    rw [q_L_walk_0, (BO l.1.1).1, e1, e_clIx]
    exact q_L_walk_13 sc (d + 58) _ _ _ _ _ _ _
  · have e1 : Cl sc (d + 58) mX11_walk [Vr (some 0), Vi x, Vi y, Vi z] (hI h I) = some (.inr 3, hI h1 J1) := e1
    obtain ⟨v', h2, J2, f1, f2, f3, f4, f5, f6⟩ := e2 (J1 303 0)
    rw [u2_id] at f2
    refine ⟨cdB 3, h1, J1, ?_, s1, v', h2, J2, up_Cl _ f2, f3, f5, f6, fun z => absurd z (by decide)⟩
    rw [q_L_walk_0, (BO l.1.1).1, e1, e_clIx]
    exact q_L_walk_10 sc (d + 58) _ _ _ _ _ _ _
theorem w_hangs (l : LInv h I) : Wr h I (Cl sc (d + 59) mL_hangs [Vr (some 0), Vi x, Vr (some 303)] (hI h I)) (Cl sc (d + 59) mX12_hangs [Vr (some 283), Vi x]) false := by
  have p : Pub h I (Cl sc (d + 58) mX11_hangs [Vr (some 0), Vi x]) (Cl sc (d + 58) mX12_hangs [Vr (some 283), Vi x]) cdA := p_hangs l.1
  obtain ⟨z, v, h1, J1, e0, e1, s1, e2⟩ := pubS l (by decide) (by decide) p
  have ex : exS mX11_hangs = [1] := by decide
  rw [ex] at e0
  have e0 : z = 0 ∨ z = 1 := by simpa using e0
  rcases e0 with rfl | rfl
  · have e1 : Cl sc (d + 58) mX11_hangs [Vr (some 0), Vi x] (hI h I) = some (.inl (Vi v), hI h1 J1) := e1
    obtain ⟨v', h2, J2, f1, f2, f3, f4, f5, f6⟩ := e2 (ovL false v)
    rw [f1 rfl] at f2
    refine ⟨0, h1, am_u2 J1 303 0 (ovL false v), ?_, s1, v, h2, J2, up_Cl _ f2, f3, f5, f6, fun _ => f4⟩
    rw [q_L_hangs_0, (BO l.1.1).1, e1, e_clI, e_stA (s1.T 303 rfl) (by decide) (by decide)]
    rfl
  · have e1 : Cl sc (d + 58) mX11_hangs [Vr (some 0), Vi x] (hI h I) = some (.inr 1, hI h1 J1) := e1
    obtain ⟨v', h2, J2, f1, f2, f3, f4, f5, f6⟩ := e2 (J1 303 0)
    rw [u2_id] at f2
    refine ⟨cdA 1, h1, J1, ?_, s1, v', h2, J2, up_Cl _ f2, f3, f5, f6, fun z => absurd z (by decide)⟩
    rw [q_L_hangs_0, (BO l.1.1).1, e1, e_clIx]
    exact q_L_hangs_8 sc (d + 58) _ _ _ _ _
theorem w_ends (l : LInv h I) : Wr h I (Cl sc (d + 59) mL_ends [Vr (some 0), Vi x, Vr (some 303)] (hI h I)) (Cl sc (d + 59) mX12_ends [Vr (some 283), Vi x]) false := by
  have p : Pub h I (Cl sc (d + 58) mX11_ends [Vr (some 0), Vi x]) (Cl sc (d + 58) mX12_ends [Vr (some 283), Vi x]) cdA := p_ends l.1
  obtain ⟨z, v, h1, J1, e0, e1, s1, e2⟩ := pubS l (by decide) (by decide) p
  have ex : exS mX11_ends = [1] := by decide
  rw [ex] at e0
  have e0 : z = 0 ∨ z = 1 := by simpa using e0
  rcases e0 with rfl | rfl
  · have e1 : Cl sc (d + 58) mX11_ends [Vr (some 0), Vi x] (hI h I) = some (.inl (Vi v), hI h1 J1) := e1
    obtain ⟨v', h2, J2, f1, f2, f3, f4, f5, f6⟩ := e2 (ovL false v)
    rw [f1 rfl] at f2
    refine ⟨0, h1, am_u2 J1 303 0 (ovL false v), ?_, s1, v, h2, J2, up_Cl _ f2, f3, f5, f6, fun _ => f4⟩
    rw [q_L_ends_0, (BO l.1.1).1, e1, e_clI, e_stA (s1.T 303 rfl) (by decide) (by decide)]
    rfl
  · have e1 : Cl sc (d + 58) mX11_ends [Vr (some 0), Vi x] (hI h I) = some (.inr 1, hI h1 J1) := e1
    obtain ⟨v', h2, J2, f1, f2, f3, f4, f5, f6⟩ := e2 (J1 303 0)
    rw [u2_id] at f2
    refine ⟨cdA 1, h1, J1, ?_, s1, v', h2, J2, up_Cl _ f2, f3, f5, f6, fun z => absurd z (by decide)⟩
    rw [q_L_ends_0, (BO l.1.1).1, e1, e_clIx]
    exact q_L_ends_8 sc (d + 58) _ _ _ _ _
theorem w_seen (l : LInv h I) : Wr h I (Cl sc (d + 59) mL_seen [Vr (some 0), Vi x, Vr (some 303)] (hI h I)) (Cl sc (d + 59) mX12_seen [Vr (some 283), Vi x]) false := by
  have p : Pub h I (Cl sc (d + 58) mX11_seen [Vr (some 0), Vi x]) (Cl sc (d + 58) mX12_seen [Vr (some 283), Vi x]) cdA := p_seen l.1
  obtain ⟨z, v, h1, J1, e0, e1, s1, e2⟩ := pubS l (by decide) (by decide) p
  have ex : exS mX11_seen = [1] := by decide
  rw [ex] at e0
  have e0 : z = 0 ∨ z = 1 := by simpa using e0
  rcases e0 with rfl | rfl
  · have e1 : Cl sc (d + 58) mX11_seen [Vr (some 0), Vi x] (hI h I) = some (.inl (Vi v), hI h1 J1) := e1
    obtain ⟨v', h2, J2, f1, f2, f3, f4, f5, f6⟩ := e2 (ovL false v)
    rw [f1 rfl] at f2
    refine ⟨0, h1, am_u2 J1 303 0 (ovL false v), ?_, s1, v, h2, J2, up_Cl _ f2, f3, f5, f6, fun _ => f4⟩
    rw [q_L_seen_0, (BO l.1.1).1, e1, e_clI, e_stA (s1.T 303 rfl) (by decide) (by decide)]
    rfl
  · have e1 : Cl sc (d + 58) mX11_seen [Vr (some 0), Vi x] (hI h I) = some (.inr 1, hI h1 J1) := e1
    obtain ⟨v', h2, J2, f1, f2, f3, f4, f5, f6⟩ := e2 (J1 303 0)
    rw [u2_id] at f2
    refine ⟨cdA 1, h1, J1, ?_, s1, v', h2, J2, up_Cl _ f2, f3, f5, f6, fun z => absurd z (by decide)⟩
    rw [q_L_seen_0, (BO l.1.1).1, e1, e_clIx]
    exact q_L_seen_8 sc (d + 58) _ _ _ _ _
theorem w_ask (l : LInv h I) : Wr h I (Cl sc (d + 59) mL_ask [Vr (some 0), Vr (some 303)] (hI h I)) (Cl sc (d + 59) mX12_ask [Vr (some 283)]) false := by
  have p : Pub h I (Cl sc (d + 58) mX11_ask [Vr (some 0)]) (Cl sc (d + 58) mX12_ask [Vr (some 283)]) cdA := p_ask l.1
  obtain ⟨z, v, h1, J1, e0, e1, s1, e2⟩ := pubS l (by decide) (by decide) p
  have ex : exS mX11_ask = [1] := by decide
  rw [ex] at e0
  have e0 : z = 0 ∨ z = 1 := by simpa using e0
  rcases e0 with rfl | rfl
  · have e1 : Cl sc (d + 58) mX11_ask [Vr (some 0)] (hI h I) = some (.inl (Vi v), hI h1 J1) := e1
    obtain ⟨v', h2, J2, f1, f2, f3, f4, f5, f6⟩ := e2 (ovL false v)
    rw [f1 rfl] at f2
    refine ⟨0, h1, am_u2 J1 303 0 (ovL false v), ?_, s1, v, h2, J2, up_Cl _ f2, f3, f5, f6, fun _ => f4⟩
    rw [q_L_ask_0, (BO l.1.1).1, e1, e_clI, e_stA (s1.T 303 rfl) (by decide) (by decide)]
    rfl
  · have e1 : Cl sc (d + 58) mX11_ask [Vr (some 0)] (hI h I) = some (.inr 1, hI h1 J1) := e1
    obtain ⟨v', h2, J2, f1, f2, f3, f4, f5, f6⟩ := e2 (J1 303 0)
    rw [u2_id] at f2
    refine ⟨cdA 1, h1, J1, ?_, s1, v', h2, J2, up_Cl _ f2, f3, f5, f6, fun z => absurd z (by decide)⟩
    rw [q_L_ask_0, (BO l.1.1).1, e1, e_clIx]
    exact q_L_ask_7 sc (d + 58) _ _ _ _
theorem w_loses (l : LInv h I) : Wr h I (Cl sc (d + 59) mL_loses [Vr (some 0), Vi x, Vi y, Vr (some 303)] (hI h I)) (Cl sc (d + 59) mX12_loses [Vr (some 283), Vi x, Vi y]) false := by
  have p : Pub h I (Cl sc (d + 58) mX11_loses [Vr (some 0), Vi x, Vi y]) (Cl sc (d + 58) mX12_loses [Vr (some 283), Vi x, Vi y]) cdA := p_loses l.1
  obtain ⟨z, v, h1, J1, e0, e1, s1, e2⟩ := pubS l (by decide) (by decide) p
  have ex : exS mX11_loses = [3] := by decide
  rw [ex] at e0
  have e0 : z = 0 ∨ z = 3 := by simpa using e0
  rcases e0 with rfl | rfl
  · have e1 : Cl sc (d + 58) mX11_loses [Vr (some 0), Vi x, Vi y] (hI h I) = some (.inl (Vi v), hI h1 J1) := e1
    obtain ⟨v', h2, J2, f1, f2, f3, f4, f5, f6⟩ := e2 (ovL false v)
    rw [f1 rfl] at f2
    refine ⟨0, h1, am_u2 J1 303 0 (ovL false v), ?_, s1, v, h2, J2, up_Cl _ f2, f3, f5, f6, fun _ => f4⟩
    rw [q_L_loses_0, (BO l.1.1).1, e1, e_clI, e_stA (s1.T 303 rfl) (by decide) (by decide)]
    rfl
  · have e1 : Cl sc (d + 58) mX11_loses [Vr (some 0), Vi x, Vi y] (hI h I) = some (.inr 3, hI h1 J1) := e1
    obtain ⟨v', h2, J2, f1, f2, f3, f4, f5, f6⟩ := e2 (J1 303 0)
    rw [u2_id] at f2
    refine ⟨cdA 3, h1, J1, ?_, s1, v', h2, J2, up_Cl _ f2, f3, f5, f6, fun z => absurd z (by decide)⟩
    rw [q_L_loses_0, (BO l.1.1).1, e1, e_clIx]
    exact q_L_loses_9 sc (d + 58) _ _ _ _ _ _
theorem w_pairs (l : LInv h I) : Wr h I (Cl sc (d + 59) mL_pairs [Vr (some 0), Vi x, Vr (some 303)] (hI h I)) (Cl sc (d + 59) mX12_pairs [Vr (some 283), Vi x]) false := by
  have p : Pub h I (Cl sc (d + 58) mX11_pairs [Vr (some 0), Vi x]) (Cl sc (d + 58) mX12_pairs [Vr (some 283), Vi x]) cdA := p_pairs l.1
  obtain ⟨z, v, h1, J1, e0, e1, s1, e2⟩ := pubS l (by decide) (by decide) p
  have ex : exS mX11_pairs = [3] := by decide
  rw [ex] at e0
  have e0 : z = 0 ∨ z = 3 := by simpa using e0
  rcases e0 with rfl | rfl
  · have e1 : Cl sc (d + 58) mX11_pairs [Vr (some 0), Vi x] (hI h I) = some (.inl (Vi v), hI h1 J1) := e1
    obtain ⟨v', h2, J2, f1, f2, f3, f4, f5, f6⟩ := e2 (ovL false v)
    rw [f1 rfl] at f2
    refine ⟨0, h1, am_u2 J1 303 0 (ovL false v), ?_, s1, v, h2, J2, up_Cl _ f2, f3, f5, f6, fun _ => f4⟩
    rw [q_L_pairs_0, (BO l.1.1).1, e1, e_clI, e_stA (s1.T 303 rfl) (by decide) (by decide)]
    rfl
  · have e1 : Cl sc (d + 58) mX11_pairs [Vr (some 0), Vi x] (hI h I) = some (.inr 3, hI h1 J1) := e1
    obtain ⟨v', h2, J2, f1, f2, f3, f4, f5, f6⟩ := e2 (J1 303 0)
    rw [u2_id] at f2
    refine ⟨cdA 3, h1, J1, ?_, s1, v', h2, J2, up_Cl _ f2, f3, f5, f6, fun z => absurd z (by decide)⟩
    rw [q_L_pairs_0, (BO l.1.1).1, e1, e_clIx]
    exact q_L_pairs_8 sc (d + 58) _ _ _ _ _
theorem w_rests (l : LInv h I) : Wr h I (Cl sc (d + 59) mL_rests [Vr (some 0), Vi x, Vi y, Vr (some 303)] (hI h I)) (Cl sc (d + 59) mX12_rests [Vr (some 283), Vi x, Vi y]) false := by
  have p : Pub h I (Cl sc (d + 58) mX11_rests [Vr (some 0), Vi x, Vi y]) (Cl sc (d + 58) mX12_rests [Vr (some 283), Vi x, Vi y]) cdB := p_rests l.1
  obtain ⟨z, v, h1, J1, e0, e1, s1, e2⟩ := pubS l (by decide) (by decide) p
  have ex : exS mX11_rests = [1, 3] := by decide
  rw [ex] at e0
  have e0 : z = 0 ∨ z = 1 ∨ z = 3 := by simpa using e0
  rcases e0 with rfl | rfl | rfl
  · have e1 : Cl sc (d + 58) mX11_rests [Vr (some 0), Vi x, Vi y] (hI h I) = some (.inl (Vi v), hI h1 J1) := e1
    obtain ⟨v', h2, J2, f1, f2, f3, f4, f5, f6⟩ := e2 (ovL false v)
    rw [f1 rfl] at f2
    refine ⟨0, h1, am_u2 J1 303 0 (ovL false v), ?_, s1, v, h2, J2, up_Cl _ f2, f3, f5, f6, fun _ => f4⟩
    rw [q_L_rests_0, (BO l.1.1).1, e1, e_clI, e_stA (s1.T 303 rfl) (by decide) (by decide)]
    rfl
  · have e1 : Cl sc (d + 58) mX11_rests [Vr (some 0), Vi x, Vi y] (hI h I) = some (.inr 1, hI h1 J1) := e1
    obtain ⟨v', h2, J2, f1, f2, f3, f4, f5, f6⟩ := e2 (J1 303 0)
    rw [u2_id] at f2
    refine ⟨cdB 1, h1, J1, ?_, s1, v', h2, J2, up_Cl _ f2, f3, f5, f6, fun z => absurd z (by decide)⟩
    rw [q_L_rests_0, (BO l.1.1).1, e1, e_clIx]
    exact q_L_rests_12 sc (d + 58) _ _ _ _ _ _
  · have e1 : Cl sc (d + 58) mX11_rests [Vr (some 0), Vi x, Vi y] (hI h I) = some (.inr 3, hI h1 J1) := e1
    obtain ⟨v', h2, J2, f1, f2, f3, f4, f5, f6⟩ := e2 (J1 303 0)
    rw [u2_id] at f2
    refine ⟨cdB 3, h1, J1, ?_, s1, v', h2, J2, up_Cl _ f2, f3, f5, f6, fun z => absurd z (by decide)⟩
    rw [q_L_rests_0, (BO l.1.1).1, e1, e_clIx]
    exact q_L_rests_9 sc (d + 58) _ _ _ _ _ _
theorem w_odds (l : LInv h I) : Wr h I (Cl sc (d + 59) mL_odds [Vr (some 0), Vi x, Vi y, Vr (some 303)] (hI h I)) (Cl sc (d + 59) mX12_odds [Vr (some 283), Vi x, Vi y]) false := by
  have p : Pub h I (Cl sc (d + 58) mX11_odds [Vr (some 0), Vi x, Vi y]) (Cl sc (d + 58) mX12_odds [Vr (some 283), Vi x, Vi y]) cdB := p_odds l.1
  obtain ⟨z, v, h1, J1, e0, e1, s1, e2⟩ := pubS l (by decide) (by decide) p
  have ex : exS mX11_odds = [1, 3] := by decide
  rw [ex] at e0
  have e0 : z = 0 ∨ z = 1 ∨ z = 3 := by simpa using e0
  rcases e0 with rfl | rfl | rfl
  · have e1 : Cl sc (d + 58) mX11_odds [Vr (some 0), Vi x, Vi y] (hI h I) = some (.inl (Vi v), hI h1 J1) := e1
    obtain ⟨v', h2, J2, f1, f2, f3, f4, f5, f6⟩ := e2 (ovL false v)
    rw [f1 rfl] at f2
    refine ⟨0, h1, am_u2 J1 303 0 (ovL false v), ?_, s1, v, h2, J2, up_Cl _ f2, f3, f5, f6, fun _ => f4⟩
    rw [q_L_odds_0, (BO l.1.1).1, e1, e_clI, e_stA (s1.T 303 rfl) (by decide) (by decide)]
    rfl
  · have e1 : Cl sc (d + 58) mX11_odds [Vr (some 0), Vi x, Vi y] (hI h I) = some (.inr 1, hI h1 J1) := e1
    obtain ⟨v', h2, J2, f1, f2, f3, f4, f5, f6⟩ := e2 (J1 303 0)
    rw [u2_id] at f2
    refine ⟨cdB 1, h1, J1, ?_, s1, v', h2, J2, up_Cl _ f2, f3, f5, f6, fun z => absurd z (by decide)⟩
    rw [q_L_odds_0, (BO l.1.1).1, e1, e_clIx]
    exact q_L_odds_12 sc (d + 58) _ _ _ _ _ _
  · have e1 : Cl sc (d + 58) mX11_odds [Vr (some 0), Vi x, Vi y] (hI h I) = some (.inr 3, hI h1 J1) := e1
    obtain ⟨v', h2, J2, f1, f2, f3, f4, f5, f6⟩ := e2 (J1 303 0)
    rw [u2_id] at f2
    refine ⟨cdB 3, h1, J1, ?_, s1, v', h2, J2, up_Cl _ f2, f3, f5, f6, fun z => absurd z (by decide)⟩
    rw [q_L_odds_0, (BO l.1.1).1, e1, e_clIx]
    exact q_L_odds_9 sc (d + 58) _ _ _ _ _ _
theorem w_ahead (l : LInv h I) : Wr h I (Cl sc (d + 59) mL_ahead [Vr (some 0), Vi x, Vi y, Vr (some 303)] (hI h I)) (Cl sc (d + 59) mX12_ahead [Vr (some 283), Vi x, Vi y]) false := by
  have p : Pub h I (Cl sc (d + 58) mX11_ahead [Vr (some 0), Vi x, Vi y]) (Cl sc (d + 58) mX12_ahead [Vr (some 283), Vi x, Vi y]) cdB := p_ahead l.1 (bb_county l.1.1 l.2 isC_now)
  obtain ⟨z, v, h1, J1, e0, e1, s1, e2⟩ := pubS l (by decide) (by decide) p
  have ex : exS mX11_ahead = [1, 3] := by decide
  rw [ex] at e0
  have e0 : z = 0 ∨ z = 1 ∨ z = 3 := by simpa using e0
  rcases e0 with rfl | rfl | rfl
  · have e1 : Cl sc (d + 58) mX11_ahead [Vr (some 0), Vi x, Vi y] (hI h I) = some (.inl (Vi v), hI h1 J1) := e1
    obtain ⟨v', h2, J2, f1, f2, f3, f4, f5, f6⟩ := e2 (ovL false v)
    rw [f1 rfl] at f2
    refine ⟨0, h1, am_u2 J1 303 0 (ovL false v), ?_, s1, v, h2, J2, up_Cl _ f2, f3, f5, f6, fun _ => f4⟩
    rw [q_L_ahead_0, (BO l.1.1).1, e1, e_clI, e_stA (s1.T 303 rfl) (by decide) (by decide)]
    rfl
  · have e1 : Cl sc (d + 58) mX11_ahead [Vr (some 0), Vi x, Vi y] (hI h I) = some (.inr 1, hI h1 J1) := e1
    obtain ⟨v', h2, J2, f1, f2, f3, f4, f5, f6⟩ := e2 (J1 303 0)
    rw [u2_id] at f2
    refine ⟨cdB 1, h1, J1, ?_, s1, v', h2, J2, up_Cl _ f2, f3, f5, f6, fun z => absurd z (by decide)⟩
    rw [q_L_ahead_0, (BO l.1.1).1, e1, e_clIx]
    exact q_L_ahead_12 sc (d + 58) _ _ _ _ _ _
  · have e1 : Cl sc (d + 58) mX11_ahead [Vr (some 0), Vi x, Vi y] (hI h I) = some (.inr 3, hI h1 J1) := e1
    obtain ⟨v', h2, J2, f1, f2, f3, f4, f5, f6⟩ := e2 (J1 303 0)
    rw [u2_id] at f2
    refine ⟨cdB 3, h1, J1, ?_, s1, v', h2, J2, up_Cl _ f2, f3, f5, f6, fun z => absurd z (by decide)⟩
    rw [q_L_ahead_0, (BO l.1.1).1, e1, e_clIx]
    exact q_L_ahead_9 sc (d + 58) _ _ _ _ _ _
theorem w_trial (l : LInv h I) : Wr h I (Cl sc (d + 59) mL_trial [Vr (some 0), Vi x, Vi y, Vr (some 303)] (hI h I)) (Cl sc (d + 59) mX12_trial [Vr (some 283), Vi x, Vi y]) false := by
  have p : Pub h I (Cl sc (d + 58) mX11_trial [Vr (some 0), Vi x, Vi y]) (Cl sc (d + 58) mX12_trial [Vr (some 283), Vi x, Vi y]) cdA := p_trial l.1 (bb_county l.1.1 l.2 isC_now)
  obtain ⟨z, v, h1, J1, e0, e1, s1, e2⟩ := pubS l (by decide) (by decide) p
  have ex : exS mX11_trial = [1] := by decide
  rw [ex] at e0
  have e0 : z = 0 ∨ z = 1 := by simpa using e0
  rcases e0 with rfl | rfl
  · have e1 : Cl sc (d + 58) mX11_trial [Vr (some 0), Vi x, Vi y] (hI h I) = some (.inl (Vi v), hI h1 J1) := e1
    obtain ⟨v', h2, J2, f1, f2, f3, f4, f5, f6⟩ := e2 (ovL false v)
    rw [f1 rfl] at f2
    refine ⟨0, h1, am_u2 J1 303 0 (ovL false v), ?_, s1, v, h2, J2, up_Cl _ f2, f3, f5, f6, fun _ => f4⟩
    rw [q_L_trial_0, (BO l.1.1).1, e1, e_clI, e_stA (s1.T 303 rfl) (by decide) (by decide)]
    rfl
  · have e1 : Cl sc (d + 58) mX11_trial [Vr (some 0), Vi x, Vi y] (hI h I) = some (.inr 1, hI h1 J1) := e1
    obtain ⟨v', h2, J2, f1, f2, f3, f4, f5, f6⟩ := e2 (J1 303 0)
    rw [u2_id] at f2
    refine ⟨cdA 1, h1, J1, ?_, s1, v', h2, J2, up_Cl _ f2, f3, f5, f6, fun z => absurd z (by decide)⟩
    rw [q_L_trial_0, (BO l.1.1).1, e1, e_clIx]
    exact q_L_trial_9 sc (d + 58) _ _ _ _ _ _
theorem w_span (l : LInv h I) : Wr h I (Cl sc (d + 59) mL_span [Vr (some 0), Vi x, Vi y, Vr (some 303)] (hI h I)) (Cl sc (d + 59) mX12_span [Vr (some 283), Vi x, Vi y]) false := by
  have p : Pub h I (Cl sc (d + 58) mX11_span [Vr (some 0), Vi x, Vi y]) (Cl sc (d + 58) mX12_span [Vr (some 283), Vi x, Vi y]) cdA := p_span l.1 (bb_county l.1.1 l.2 isC_now)
  obtain ⟨z, v, h1, J1, e0, e1, s1, e2⟩ := pubS l (by decide) (by decide) p
  have ex : exS mX11_span = [1] := by decide
  rw [ex] at e0
  have e0 : z = 0 ∨ z = 1 := by simpa using e0
  rcases e0 with rfl | rfl
  · have e1 : Cl sc (d + 58) mX11_span [Vr (some 0), Vi x, Vi y] (hI h I) = some (.inl (Vi v), hI h1 J1) := e1
    obtain ⟨v', h2, J2, f1, f2, f3, f4, f5, f6⟩ := e2 (ovL false v)
    rw [f1 rfl] at f2
    refine ⟨0, h1, am_u2 J1 303 0 (ovL false v), ?_, s1, v, h2, J2, up_Cl _ f2, f3, f5, f6, fun _ => f4⟩
    rw [q_L_span_0, (BO l.1.1).1, e1, e_clI, e_stA (s1.T 303 rfl) (by decide) (by decide)]
    rfl
  · have e1 : Cl sc (d + 58) mX11_span [Vr (some 0), Vi x, Vi y] (hI h I) = some (.inr 1, hI h1 J1) := e1
    obtain ⟨v', h2, J2, f1, f2, f3, f4, f5, f6⟩ := e2 (J1 303 0)
    rw [u2_id] at f2
    refine ⟨cdA 1, h1, J1, ?_, s1, v', h2, J2, up_Cl _ f2, f3, f5, f6, fun z => absurd z (by decide)⟩
    rw [q_L_span_0, (BO l.1.1).1, e1, e_clIx]
    exact q_L_span_9 sc (d + 58) _ _ _ _ _ _
theorem w_led (l : LInv h I) : Wr h I (Cl sc (d + 59) mL_led [Vr (some 0), Vi x, Vi y, Vr (some 303)] (hI h I)) (Cl sc (d + 59) mX12_led [Vr (some 283), Vi x, Vi y]) false := by
  have p : Pub h I (Cl sc (d + 58) mX11_led [Vr (some 0), Vi x, Vi y]) (Cl sc (d + 58) mX12_led [Vr (some 283), Vi x, Vi y]) cdA := p_led l.1
  obtain ⟨z, v, h1, J1, e0, e1, s1, e2⟩ := pubS l (by decide) (by decide) p
  have ex : exS mX11_led = [3] := by decide
  rw [ex] at e0
  have e0 : z = 0 ∨ z = 3 := by simpa using e0
  rcases e0 with rfl | rfl
  · have e1 : Cl sc (d + 58) mX11_led [Vr (some 0), Vi x, Vi y] (hI h I) = some (.inl (Vi v), hI h1 J1) := e1
    obtain ⟨v', h2, J2, f1, f2, f3, f4, f5, f6⟩ := e2 (ovL false v)
    rw [f1 rfl] at f2
    refine ⟨0, h1, am_u2 J1 303 0 (ovL false v), ?_, s1, v, h2, J2, up_Cl _ f2, f3, f5, f6, fun _ => f4⟩
    rw [q_L_led_0, (BO l.1.1).1, e1, e_clI, e_stA (s1.T 303 rfl) (by decide) (by decide)]
    rfl
  · have e1 : Cl sc (d + 58) mX11_led [Vr (some 0), Vi x, Vi y] (hI h I) = some (.inr 3, hI h1 J1) := e1
    obtain ⟨v', h2, J2, f1, f2, f3, f4, f5, f6⟩ := e2 (J1 303 0)
    rw [u2_id] at f2
    refine ⟨cdA 3, h1, J1, ?_, s1, v', h2, J2, up_Cl _ f2, f3, f5, f6, fun z => absurd z (by decide)⟩
    rw [q_L_led_0, (BO l.1.1).1, e1, e_clIx]
    exact q_L_led_9 sc (d + 58) _ _ _ _ _ _
theorem w_log (l : LInv h I) : Wr h I (Cl sc (d + 59) mL_log [Vr (some 0), Vi x, Vi y, Vr (some 303)] (hI h I)) (Cl sc (d + 59) mX12_log [Vr (some 283), Vi x, Vi y]) false := by
  have p : Pub h I (Cl sc (d + 58) mX11_log [Vr (some 0), Vi x, Vi y]) (Cl sc (d + 58) mX12_log [Vr (some 283), Vi x, Vi y]) cdA := p_log l.1
  obtain ⟨z, v, h1, J1, e0, e1, s1, e2⟩ := pubS l (by decide) (by decide) p
  have ex : exS mX11_log = [4] := by decide
  rw [ex] at e0
  have e0 : z = 0 ∨ z = 4 := by simpa using e0
  rcases e0 with rfl | rfl
  · have e1 : Cl sc (d + 58) mX11_log [Vr (some 0), Vi x, Vi y] (hI h I) = some (.inl (Vi v), hI h1 J1) := e1
    obtain ⟨v', h2, J2, f1, f2, f3, f4, f5, f6⟩ := e2 (ovL false v)
    rw [f1 rfl] at f2
    refine ⟨0, h1, am_u2 J1 303 0 (ovL false v), ?_, s1, v, h2, J2, up_Cl _ f2, f3, f5, f6, fun _ => f4⟩
    rw [q_L_log_0, (BO l.1.1).1, e1, e_clI, e_stA (s1.T 303 rfl) (by decide) (by decide)]
    rfl
  · have e1 : Cl sc (d + 58) mX11_log [Vr (some 0), Vi x, Vi y] (hI h I) = some (.inr 4, hI h1 J1) := e1
    obtain ⟨v', h2, J2, f1, f2, f3, f4, f5, f6⟩ := e2 (J1 303 0)
    rw [u2_id] at f2
    refine ⟨cdA 4, h1, J1, ?_, s1, v', h2, J2, up_Cl _ f2, f3, f5, f6, fun z => absurd z (by decide)⟩
    rw [q_L_log_0, (BO l.1.1).1, e1, e_clIx]
    exact q_L_log_9 sc (d + 58) _ _ _ _ _ _
theorem s_26 (l : LInv h I) (c1 : 0 ≤ w32 (i + 1) ∧ w32 (i + 1) < sc.1) (c2 : 0 ≤ w32 (i + 2) ∧ w32 (i + 2) < sc.1) (c3 : 0 ≤ w32 (i + 3) ∧ w32 (i + 3) < sc.1) (c4 : 0 ≤ w32 (i + 4) ∧ w32 (i + 4) < sc.1) (c5 : 0 ≤ w32 (i + 5) ∧ w32 (i + 5) < sc.1) {u5 u6 : am_V} : ∃ h2 J2 u7 u8, LInv h2 J2 ∧ Bd h h2 ∧ Ru sc (d + 60) mL_law_ 26 [Vx 1, Vr (some 0), Vr (some 283), Vr (some 303), Vi i, u5, u6] [] (hI h I) = Ru sc (d + 60) mL_law_ 2052 [Vx 1, Vr (some 0), Vr (some 283), Vr (some 303), Vi i, u7, u8] [] (hI h2 J2) := by
  have p : Pub h I (Cl sc (d + 59) mX11_feed [Vr (some 0), Vi (sc.2 (w32 (i + 1)).toNat), Vi (sc.2 (w32 (i + 2)).toNat), Vi (sc.2 (w32 (i + 3)).toNat), Vi (sc.2 (w32 (i + 4)).toNat), Vi (sc.2 (w32 (i + 5)).toNat)]) (Cl sc (d + 59) mX12_feed [Vr (some 283), Vi (sc.2 (w32 (i + 1)).toNat), Vi (sc.2 (w32 (i + 2)).toNat), Vi (sc.2 (w32 (i + 3)).toNat), Vi (sc.2 (w32 (i + 4)).toNat), Vi (sc.2 (w32 (i + 5)).toNat)]) cdA := p_feed l.1
  obtain ⟨v, h1, J1, h2, J2, e1, s1, f1, f2, f3⟩ := drOf l (by decide) (by decide) (by decide) p
  refine ⟨h2, J2, u5, u6, f2, f3, ?_⟩
  rw [q_L_law__26, if_pos c1, if_pos c2, if_pos c3, if_pos c4, if_pos c5, (BO l.1.1).1, e1, e_clI, if_pos c1, if_pos c2, if_pos c3, if_pos c4, if_pos c5, (BM s1).1, f1, e_clI, if_pos rfl]
theorem s_83 (l : LInv h I) (c1 : 0 ≤ w32 (i + 1) ∧ w32 (i + 1) < sc.1) {u5 u6 : am_V} : ∃ h2 J2 u7 u8, LInv h2 J2 ∧ Bd h h2 ∧ Ru sc (d + 60) mL_law_ 83 [Vx 1, Vr (some 0), Vr (some 283), Vr (some 303), Vi i, u5, u6] [] (hI h I) = Ru sc (d + 60) mL_law_ 2052 [Vx 1, Vr (some 0), Vr (some 283), Vr (some 303), Vi i, u7, u8] [] (hI h2 J2) := by
  have p : Pub h I (Cl sc (d + 59) mX11_end [Vr (some 0), Vi (sc.2 (w32 (i + 1)).toNat)]) (Cl sc (d + 59) mX12_end [Vr (some 283), Vi (sc.2 (w32 (i + 1)).toNat)]) cdA := p_end l.1
  obtain ⟨v, h1, J1, h2, J2, e1, s1, f1, f2, f3⟩ := drOf l (by decide) (by decide) (by decide) p
  refine ⟨h2, J2, u5, u6, f2, f3, ?_⟩
  rw [q_L_law__83, if_pos c1, (BO l.1.1).1, e1, e_clI, if_pos c1, (BM s1).1, f1, e_clI, if_pos rfl]
theorem s_100 (l : LInv h I) {u5 u6 : am_V} : ∃ h2 J2 u7 u8, LInv h2 J2 ∧ Bd h h2 ∧ Ru sc (d + 60) mL_law_ 100 [Vx 1, Vr (some 0), Vr (some 283), Vr (some 303), Vi i, u5, u6] [] (hI h I) = Ru sc (d + 60) mL_law_ 2052 [Vx 1, Vr (some 0), Vr (some 283), Vr (some 303), Vi i, u7, u8] [] (hI h2 J2) := by
  obtain ⟨k, h1, J1, e1, s1, v, h2, J2, f1, f2, f3, f4, f5⟩ := w_county (sc := sc) (d := d) l
  refine ⟨h2, J2, Vi k, Vi v, f2, f4, ?_⟩
  rw [q_L_law__100, e1, e_clI, (BM s1).1, f1, e_clI]
  exact tl0 (X := fun h9 => Ru sc (d + 60) mL_law_ 2052 [Vx 1, Vr (some 0), Vr (some 283), Vr (some 303), Vi i, Vi k, Vi v] [] h9) (Y := fun h9 => some (.inl (Vi 0), h9)) f2.1.1 f3 f5
theorem s_125 (l : LInv h I) {u5 u6 : am_V} : ∃ h2 J2 u7 u8, LInv h2 J2 ∧ Bd h h2 ∧ Ru sc (d + 60) mL_law_ 125 [Vx 1, Vr (some 0), Vr (some 283), Vr (some 303), Vi i, u5, u6] [] (hI h I) = Ru sc (d + 60) mL_law_ 2052 [Vx 1, Vr (some 0), Vr (some 283), Vr (some 303), Vi i, u7, u8] [] (hI h2 J2) := by
  obtain ⟨k, h1, J1, e1, s1, v, h2, J2, f1, f2, f3, f4, f5⟩ := w_law (sc := sc) (d := d) l
  refine ⟨h2, J2, Vi k, Vi v, f2, f4, ?_⟩
  rw [q_L_law__125, e1, e_clI, (BM s1).1, f1, e_clI]
  exact tl0 (X := fun h9 => Ru sc (d + 60) mL_law_ 2052 [Vx 1, Vr (some 0), Vr (some 283), Vr (some 303), Vi i, Vi k, Vi v] [] h9) (Y := fun h9 => some (.inl (Vi 0), h9)) f2.1.1 f3 f5
theorem s_150 (l : LInv h I) {u5 u6 : am_V} : ∃ h2 J2 u7 u8, LInv h2 J2 ∧ Bd h h2 ∧ Ru sc (d + 60) mL_law_ 150 [Vx 1, Vr (some 0), Vr (some 283), Vr (some 303), Vi i, u5, u6] [] (hI h I) = Ru sc (d + 60) mL_law_ 2052 [Vx 1, Vr (some 0), Vr (some 283), Vr (some 303), Vi i, u7, u8] [] (hI h2 J2) := by
  have p : Pub h I (Cl sc (d + 59) mX11_fault [Vr (some 0)]) (Cl sc (d + 59) mX12_fault [Vr (some 283)]) cdA := p_fault l.1
  obtain ⟨v, h1, J1, h2, J2, e1, s1, f1, f2, f3⟩ := drOf l (by decide) (by decide) (by decide) p
  refine ⟨h2, J2, u5, u6, f2, f3, ?_⟩
  rw [q_L_law__150, (BO l.1.1).1, e1, e_clI, (BM s1).1, f1, e_clI, if_pos rfl]
theorem s_157 (l : LInv h I) (c1 : 0 ≤ w32 (i + 1) ∧ w32 (i + 1) < sc.1) (c2 : 0 ≤ w32 (i + 2) ∧ w32 (i + 2) < sc.1) {u5 u6 : am_V} : ∃ h2 J2 u7 u8, LInv h2 J2 ∧ Bd h h2 ∧ Ru sc (d + 60) mL_law_ 157 [Vx 1, Vr (some 0), Vr (some 283), Vr (some 303), Vi i, u5, u6] [] (hI h I) = Ru sc (d + 60) mL_law_ 2052 [Vx 1, Vr (some 0), Vr (some 283), Vr (some 303), Vi i, u7, u8] [] (hI h2 J2) := by
  obtain ⟨k, h1, J1, e1, s1, v, h2, J2, f1, f2, f3, f4, f5⟩ := w_border (sc := sc) (d := d) l (x := sc.2 (w32 (i + 1)).toNat) (y := sc.2 (w32 (i + 2)).toNat)
  refine ⟨h2, J2, Vi k, Vi v, f2, f4, ?_⟩
  rw [q_L_law__157, if_pos c1, if_pos c2, e1, e_clI, if_pos c1, if_pos c2, (BM s1).1, f1, e_clI]
  exact tl0 (X := fun h9 => Ru sc (d + 60) mL_law_ 2052 [Vx 1, Vr (some 0), Vr (some 283), Vr (some 303), Vi i, Vi k, Vi v] [] h9) (Y := fun h9 => some (.inl (Vi 0), h9)) f2.1.1 f3 f5
theorem s_202 (l : LInv h I) (c1 : 0 ≤ w32 (i + 1) ∧ w32 (i + 1) < sc.1) (c2 : 0 ≤ w32 (i + 2) ∧ w32 (i + 2) < sc.1) {u5 u6 : am_V} : ∃ h2 J2 u7 u8, LInv h2 J2 ∧ Bd h h2 ∧ Ru sc (d + 60) mL_law_ 202 [Vx 1, Vr (some 0), Vr (some 283), Vr (some 303), Vi i, u5, u6] [] (hI h I) = Ru sc (d + 60) mL_law_ 2052 [Vx 1, Vr (some 0), Vr (some 283), Vr (some 303), Vi i, u7, u8] [] (hI h2 J2) := by
  obtain ⟨k, h1, J1, e1, s1, v, h2, J2, f1, f2, f3, f4, f5⟩ := w_between (sc := sc) (d := d) l (x := sc.2 (w32 (i + 1)).toNat) (y := sc.2 (w32 (i + 2)).toNat)
  refine ⟨h2, J2, Vi k, Vi v, f2, f4, ?_⟩
  rw [q_L_law__202, if_pos c1, if_pos c2, e1, e_clI, if_pos c1, if_pos c2, (BM s1).1, f1, e_clI]
  exact tl0 (X := fun h9 => Ru sc (d + 60) mL_law_ 2052 [Vx 1, Vr (some 0), Vr (some 283), Vr (some 303), Vi i, Vi k, Vi v] [] h9) (Y := fun h9 => some (.inl (Vi 0), h9)) f2.1.1 f3 f5
theorem s_247 (l : LInv h I) (c1 : 0 ≤ w32 (i + 1) ∧ w32 (i + 1) < sc.1) (c2 : 0 ≤ w32 (i + 2) ∧ w32 (i + 2) < sc.1) {u5 u6 : am_V} : ∃ h2 J2 u7 u8, LInv h2 J2 ∧ Bd h h2 ∧ Ru sc (d + 60) mL_law_ 247 [Vx 1, Vr (some 0), Vr (some 283), Vr (some 303), Vi i, u5, u6] [] (hI h I) = Ru sc (d + 60) mL_law_ 2052 [Vx 1, Vr (some 0), Vr (some 283), Vr (some 303), Vi i, u7, u8] [] (hI h2 J2) := by
  obtain ⟨k, h1, J1, e1, s1, v, h2, J2, f1, f2, f3, f4, f5⟩ := w_family (sc := sc) (d := d) l (x := sc.2 (w32 (i + 1)).toNat) (y := sc.2 (w32 (i + 2)).toNat)
  refine ⟨h2, J2, Vi k, Vi v, f2, f4, ?_⟩
  rw [q_L_law__247, if_pos c1, if_pos c2, e1, e_clI, if_pos c1, if_pos c2, (BM s1).1, f1, e_clI]
  exact tl0 (X := fun h9 => Ru sc (d + 60) mL_law_ 2052 [Vx 1, Vr (some 0), Vr (some 283), Vr (some 303), Vi i, Vi k, Vi v] [] h9) (Y := fun h9 => some (.inl (Vi 0), h9)) f2.1.1 f3 f5
theorem s_292 (l : LInv h I) (c1 : 0 ≤ w32 (i + 1) ∧ w32 (i + 1) < sc.1) {u5 u6 : am_V} : ∃ h2 J2 u7 u8, LInv h2 J2 ∧ Bd h h2 ∧ Ru sc (d + 60) mL_law_ 292 [Vx 1, Vr (some 0), Vr (some 283), Vr (some 303), Vi i, u5, u6] [] (hI h I) = Ru sc (d + 60) mL_law_ 2052 [Vx 1, Vr (some 0), Vr (some 283), Vr (some 303), Vi i, u7, u8] [] (hI h2 J2) := by
  obtain ⟨k, h1, J1, e1, s1, v, h2, J2, f1, f2, f3, f4, f5⟩ := w_years (sc := sc) (d := d) l (x := sc.2 (w32 (i + 1)).toNat)
  refine ⟨h2, J2, Vi k, Vi v, f2, f4, ?_⟩
  rw [q_L_law__292, if_pos c1, e1, e_clI, if_pos c1, (BM s1).1, f1, e_clI]
  exact tl0 (X := fun h9 => Ru sc (d + 60) mL_law_ 2052 [Vx 1, Vr (some 0), Vr (some 283), Vr (some 303), Vi i, Vi k, Vi v] [] h9) (Y := fun h9 => some (.inl (Vi 0), h9)) f2.1.1 f3 f5
theorem s_327 (l : LInv h I) (c1 : 0 ≤ w32 (i + 1) ∧ w32 (i + 1) < sc.1) {u5 u6 : am_V} : ∃ h2 J2 u7 u8, LInv h2 J2 ∧ Bd h h2 ∧ Ru sc (d + 60) mL_law_ 327 [Vx 1, Vr (some 0), Vr (some 283), Vr (some 303), Vi i, u5, u6] [] (hI h I) = Ru sc (d + 60) mL_law_ 2052 [Vx 1, Vr (some 0), Vr (some 283), Vr (some 303), Vi i, u7, u8] [] (hI h2 J2) := by
  obtain ⟨k, h1, J1, e1, s1, v, h2, J2, f1, f2, f3, f4, f5⟩ := w_raise (sc := sc) (d := d) l (x := sc.2 (w32 (i + 1)).toNat)
  refine ⟨h2, J2, Vi k, Vi v, f2, f4, ?_⟩
  rw [q_L_law__327, if_pos c1, e1, e_clI, if_pos c1, (BM s1).1, f1, e_clI]
  exact tl0 (X := fun h9 => Ru sc (d + 60) mL_law_ 2052 [Vx 1, Vr (some 0), Vr (some 283), Vr (some 303), Vi i, Vi k, Vi v] [] h9) (Y := fun h9 => some (.inl (Vi 0), h9)) f2.1.1 f3 f5
theorem s_362 (l : LInv h I) (c1 : 0 ≤ w32 (i + 1) ∧ w32 (i + 1) < sc.1) {u5 u6 : am_V} : ∃ h2 J2 u7 u8, LInv h2 J2 ∧ Bd h h2 ∧ Ru sc (d + 60) mL_law_ 362 [Vx 1, Vr (some 0), Vr (some 283), Vr (some 303), Vi i, u5, u6] [] (hI h I) = Ru sc (d + 60) mL_law_ 2052 [Vx 1, Vr (some 0), Vr (some 283), Vr (some 303), Vi i, u7, u8] [] (hI h2 J2) := by
  obtain ⟨k, h1, J1, e1, s1, v, h2, J2, f1, f2, f3, f4, f5⟩ := w_pull (sc := sc) (d := d) l (x := sc.2 (w32 (i + 1)).toNat)
  refine ⟨h2, J2, Vi k, Vi v, f2, f4, ?_⟩
  rw [q_L_law__362, if_pos c1, e1, e_clI, if_pos c1, (BM s1).1, f1, e_clI]
  exact tl0 (X := fun h9 => Ru sc (d + 60) mL_law_ 2052 [Vx 1, Vr (some 0), Vr (some 283), Vr (some 303), Vi i, Vi k, Vi v] [] h9) (Y := fun h9 => some (.inl (Vi 0), h9)) f2.1.1 f3 f5
theorem s_397 (l : LInv h I) (c1 : 0 ≤ w32 (i + 1) ∧ w32 (i + 1) < sc.1) (c2 : 0 ≤ w32 (i + 2) ∧ w32 (i + 2) < sc.1) {u5 u6 : am_V} : ∃ h2 J2 u7 u8, LInv h2 J2 ∧ Bd h h2 ∧ Ru sc (d + 60) mL_law_ 397 [Vx 1, Vr (some 0), Vr (some 283), Vr (some 303), Vi i, u5, u6] [] (hI h I) = Ru sc (d + 60) mL_law_ 2052 [Vx 1, Vr (some 0), Vr (some 283), Vr (some 303), Vi i, u7, u8] [] (hI h2 J2) := by
  by_cases hy : sc.2 (w32 (i + 2)).toNat = 0
  · obtain ⟨k, h1, J1, e1, s1, v, h2, J2, f1, f2, f3, f4, f5⟩ := w_gate (sc := sc) (d := d) l (x := sc.2 (w32 (i + 1)).toNat) (y := 0) (Or.inl rfl)
    refine ⟨h2, J2, Vi k, Vi v, f2, f4, ?_⟩
    rw [q_L_law__397, if_pos c1, if_pos c2, if_pos hy, q_L_law__413, e1, e_clI, if_pos c1, if_pos c2, if_pos hy, q_L_law__432, (BM s1).1, f1, e_clI]
    exact tl1 (X := fun h9 => Ru sc (d + 60) mL_law_ 2052 [Vx 1, Vr (some 0), Vr (some 283), Vr (some 303), Vi i, Vi k, Vi v] [] h9) (Y := fun h9 => some (.inl (Vi 0), h9)) f2.1.1 f3 f5
  · obtain ⟨k, h1, J1, e1, s1, v, h2, J2, f1, f2, f3, f4, f5⟩ := w_gate (sc := sc) (d := d) l (x := sc.2 (w32 (i + 1)).toNat) (y := 1) (Or.inr rfl)
    refine ⟨h2, J2, Vi k, Vi v, f2, f4, ?_⟩
    rw [q_L_law__397, if_pos c1, if_pos c2, if_neg hy, q_L_law__413, e1, e_clI, if_pos c1, if_pos c2, if_neg hy, q_L_law__432, (BM s1).1, f1, e_clI]
    exact tl1 (X := fun h9 => Ru sc (d + 60) mL_law_ 2052 [Vx 1, Vr (some 0), Vr (some 283), Vr (some 303), Vi i, Vi k, Vi v] [] h9) (Y := fun h9 => some (.inl (Vi 0), h9)) f2.1.1 f3 f5
theorem s_455 (l : LInv h I) (c1 : 0 ≤ w32 (i + 1) ∧ w32 (i + 1) < sc.1) (c2 : 0 ≤ w32 (i + 2) ∧ w32 (i + 2) < sc.1) {u5 u6 : am_V} : ∃ h2 J2 u7 u8, LInv h2 J2 ∧ Bd h h2 ∧ Ru sc (d + 60) mL_law_ 455 [Vx 1, Vr (some 0), Vr (some 283), Vr (some 303), Vi i, u5, u6] [] (hI h I) = Ru sc (d + 60) mL_law_ 2052 [Vx 1, Vr (some 0), Vr (some 283), Vr (some 303), Vi i, u7, u8] [] (hI h2 J2) := by
  by_cases hy : sc.2 (w32 (i + 2)).toNat = 0
  · obtain ⟨k, h1, J1, e1, s1, v, h2, J2, f1, f2, f3, f4, f5⟩ := w_string (sc := sc) (d := d) l (x := sc.2 (w32 (i + 1)).toNat) (y := 0) (Or.inl rfl)
    refine ⟨h2, J2, Vi k, Vi v, f2, f4, ?_⟩
    rw [q_L_law__455, if_pos c1, if_pos c2, if_pos hy, q_L_law__471, e1, e_clI, if_pos c1, if_pos c2, if_pos hy, q_L_law__490, (BM s1).1, f1, e_clI]
    exact tl1 (X := fun h9 => Ru sc (d + 60) mL_law_ 2052 [Vx 1, Vr (some 0), Vr (some 283), Vr (some 303), Vi i, Vi k, Vi v] [] h9) (Y := fun h9 => some (.inl (Vi 0), h9)) f2.1.1 f3 f5
  · obtain ⟨k, h1, J1, e1, s1, v, h2, J2, f1, f2, f3, f4, f5⟩ := w_string (sc := sc) (d := d) l (x := sc.2 (w32 (i + 1)).toNat) (y := 1) (Or.inr rfl)
    refine ⟨h2, J2, Vi k, Vi v, f2, f4, ?_⟩
    rw [q_L_law__455, if_pos c1, if_pos c2, if_neg hy, q_L_law__471, e1, e_clI, if_pos c1, if_pos c2, if_neg hy, q_L_law__490, (BM s1).1, f1, e_clI]
    exact tl1 (X := fun h9 => Ru sc (d + 60) mL_law_ 2052 [Vx 1, Vr (some 0), Vr (some 283), Vr (some 303), Vi i, Vi k, Vi v] [] h9) (Y := fun h9 => some (.inl (Vi 0), h9)) f2.1.1 f3 f5
theorem s_513 (l : LInv h I) (c1 : 0 ≤ w32 (i + 1) ∧ w32 (i + 1) < sc.1) (c2 : 0 ≤ w32 (i + 2) ∧ w32 (i + 2) < sc.1) {u5 u6 : am_V} : ∃ h2 J2 u7 u8, LInv h2 J2 ∧ Bd h h2 ∧ Ru sc (d + 60) mL_law_ 513 [Vx 1, Vr (some 0), Vr (some 283), Vr (some 303), Vi i, u5, u6] [] (hI h I) = Ru sc (d + 60) mL_law_ 2052 [Vx 1, Vr (some 0), Vr (some 283), Vr (some 303), Vi i, u7, u8] [] (hI h2 J2) := by
  obtain ⟨k, h1, J1, e1, s1, v, h2, J2, f1, f2, f3, f4, f5⟩ := w_again (sc := sc) (d := d) l (x := sc.2 (w32 (i + 1)).toNat) (y := sc.2 (w32 (i + 2)).toNat)
  refine ⟨h2, J2, Vi k, Vi v, f2, f4, ?_⟩
  rw [q_L_law__513, if_pos c1, if_pos c2, e1, e_clI, if_pos c1, if_pos c2, (BM s1).1, f1, e_clI]
  exact tl0 (X := fun h9 => Ru sc (d + 60) mL_law_ 2052 [Vx 1, Vr (some 0), Vr (some 283), Vr (some 303), Vi i, Vi k, Vi v] [] h9) (Y := fun h9 => some (.inl (Vi 0), h9)) f2.1.1 f3 f5
theorem s_558 (l : LInv h I) (c1 : 0 ≤ w32 (i + 1) ∧ w32 (i + 1) < sc.1) {u5 u6 : am_V} : ∃ h2 J2 u7 u8, LInv h2 J2 ∧ Bd h h2 ∧ Ru sc (d + 60) mL_law_ 558 [Vx 1, Vr (some 0), Vr (some 283), Vr (some 303), Vi i, u5, u6] [] (hI h I) = Ru sc (d + 60) mL_law_ 2052 [Vx 1, Vr (some 0), Vr (some 283), Vr (some 303), Vi i, u7, u8] [] (hI h2 J2) := by
  obtain ⟨k, h1, J1, e1, s1, v, h2, J2, f1, f2, f3, f4, f5⟩ := w_forgive (sc := sc) (d := d) l (x := sc.2 (w32 (i + 1)).toNat)
  refine ⟨h2, J2, Vi k, Vi v, f2, f4, ?_⟩
  rw [q_L_law__558, if_pos c1, e1, e_clI, if_pos c1, (BM s1).1, f1, e_clI]
  exact tl0 (X := fun h9 => Ru sc (d + 60) mL_law_ 2052 [Vx 1, Vr (some 0), Vr (some 283), Vr (some 303), Vi i, Vi k, Vi v] [] h9) (Y := fun h9 => some (.inl (Vi 0), h9)) f2.1.1 f3 f5
theorem s_593 (l : LInv h I) (c1 : 0 ≤ w32 (i + 1) ∧ w32 (i + 1) < sc.1) (c2 : 0 ≤ w32 (i + 2) ∧ w32 (i + 2) < sc.1) {u5 u6 : am_V} : ∃ h2 J2 u7 u8, LInv h2 J2 ∧ Bd h h2 ∧ Ru sc (d + 60) mL_law_ 593 [Vx 1, Vr (some 0), Vr (some 283), Vr (some 303), Vi i, u5, u6] [] (hI h I) = Ru sc (d + 60) mL_law_ 2052 [Vx 1, Vr (some 0), Vr (some 283), Vr (some 303), Vi i, u7, u8] [] (hI h2 J2) := by
  obtain ⟨k, h1, J1, e1, s1, v, h2, J2, f1, f2, f3, f4, f5⟩ := w_move (sc := sc) (d := d) l (x := sc.2 (w32 (i + 1)).toNat) (y := sc.2 (w32 (i + 2)).toNat)
  refine ⟨h2, J2, Vi k, Vi v, f2, f4, ?_⟩
  rw [q_L_law__593, if_pos c1, if_pos c2, e1, e_clI, if_pos c1, if_pos c2, (BM s1).1, f1, e_clI]
  exact tl0 (X := fun h9 => Ru sc (d + 60) mL_law_ 2052 [Vx 1, Vr (some 0), Vr (some 283), Vr (some 303), Vi i, Vi k, Vi v] [] h9) (Y := fun h9 => some (.inl (Vi 0), h9)) f2.1.1 f3 f5
theorem s_638 (l : LInv h I) (c1 : 0 ≤ w32 (i + 1) ∧ w32 (i + 1) < sc.1) (c2 : 0 ≤ w32 (i + 2) ∧ w32 (i + 2) < sc.1) {u5 u6 : am_V} : ∃ h2 J2 u7 u8, LInv h2 J2 ∧ Bd h h2 ∧ Ru sc (d + 60) mL_law_ 638 [Vx 1, Vr (some 0), Vr (some 283), Vr (some 303), Vi i, u5, u6] [] (hI h I) = Ru sc (d + 60) mL_law_ 2052 [Vx 1, Vr (some 0), Vr (some 283), Vr (some 303), Vi i, u7, u8] [] (hI h2 J2) := by
  obtain ⟨k, h1, J1, e1, s1, v, h2, J2, f1, f2, f3, f4, f5⟩ := w_learn (sc := sc) (d := d) l (x := sc.2 (w32 (i + 1)).toNat) (y := sc.2 (w32 (i + 2)).toNat)
  refine ⟨h2, J2, Vi k, Vi v, f2, f4, ?_⟩
  rw [q_L_law__638, if_pos c1, if_pos c2, e1, e_clI, if_pos c1, if_pos c2, (BM s1).1, f1, e_clI]
  exact tl0 (X := fun h9 => Ru sc (d + 60) mL_law_ 2052 [Vx 1, Vr (some 0), Vr (some 283), Vr (some 303), Vi i, Vi k, Vi v] [] h9) (Y := fun h9 => some (.inl (Vi 0), h9)) f2.1.1 f3 f5
theorem s_683 (l : LInv h I) (c1 : 0 ≤ w32 (i + 1) ∧ w32 (i + 1) < sc.1) (c2 : 0 ≤ w32 (i + 2) ∧ w32 (i + 2) < sc.1) {u5 u6 : am_V} : ∃ h2 J2 u7 u8, LInv h2 J2 ∧ Bd h h2 ∧ Ru sc (d + 60) mL_law_ 683 [Vx 1, Vr (some 0), Vr (some 283), Vr (some 303), Vi i, u5, u6] [] (hI h I) = Ru sc (d + 60) mL_law_ 2052 [Vx 1, Vr (some 0), Vr (some 283), Vr (some 303), Vi i, u7, u8] [] (hI h2 J2) := by
  obtain ⟨k, h1, J1, e1, s1, v, h2, J2, f1, f2, f3, f4, f5⟩ := w_open (sc := sc) (d := d) l (x := sc.2 (w32 (i + 1)).toNat) (y := sc.2 (w32 (i + 2)).toNat)
  refine ⟨h2, J2, Vi k, Vi v, f2, f4, ?_⟩
  rw [q_L_law__683, if_pos c1, if_pos c2, e1, e_clI, if_pos c1, if_pos c2, (BM s1).1, f1, e_clI]
  exact tl1 (X := fun h9 => Ru sc (d + 60) mL_law_ 2052 [Vx 1, Vr (some 0), Vr (some 283), Vr (some 303), Vi i, Vi k, Vi v] [] h9) (Y := fun h9 => some (.inl (Vi 0), h9)) f2.1.1 f3 f5
theorem s_731 (l : LInv h I) (c1 : 0 ≤ w32 (i + 1) ∧ w32 (i + 1) < sc.1) (c2 : 0 ≤ w32 (i + 2) ∧ w32 (i + 2) < sc.1) {u5 u6 : am_V} : ∃ h2 J2 u7 u8, LInv h2 J2 ∧ Bd h h2 ∧ Ru sc (d + 60) mL_law_ 731 [Vx 1, Vr (some 0), Vr (some 283), Vr (some 303), Vi i, u5, u6] [] (hI h I) = Ru sc (d + 60) mL_law_ 2052 [Vx 1, Vr (some 0), Vr (some 283), Vr (some 303), Vi i, u7, u8] [] (hI h2 J2) := by
  obtain ⟨k, h1, J1, e1, s1, v, h2, J2, f1, f2, f3, f4, f5⟩ := w_far (sc := sc) (d := d) l (x := sc.2 (w32 (i + 1)).toNat) (y := sc.2 (w32 (i + 2)).toNat)
  refine ⟨h2, J2, Vi k, Vi v, f2, f4, ?_⟩
  rw [q_L_law__731, if_pos c1, if_pos c2, e1, e_clI, if_pos c1, if_pos c2, (BM s1).1, f1, e_clI]
  exact tl0 (X := fun h9 => Ru sc (d + 60) mL_law_ 2052 [Vx 1, Vr (some 0), Vr (some 283), Vr (some 303), Vi i, Vi k, Vi v] [] h9) (Y := fun h9 => some (.inl (Vi 0), h9)) f2.1.1 f3 f5
theorem s_776 (l : LInv h I) (c1 : 0 ≤ w32 (i + 1) ∧ w32 (i + 1) < sc.1) (c2 : 0 ≤ w32 (i + 2) ∧ w32 (i + 2) < sc.1) {u5 u6 : am_V} : ∃ h2 J2 u7 u8, LInv h2 J2 ∧ Bd h h2 ∧ Ru sc (d + 60) mL_law_ 776 [Vx 1, Vr (some 0), Vr (some 283), Vr (some 303), Vi i, u5, u6] [] (hI h I) = Ru sc (d + 60) mL_law_ 2052 [Vx 1, Vr (some 0), Vr (some 283), Vr (some 303), Vi i, u7, u8] [] (hI h2 J2) := by
  obtain ⟨k, h1, J1, e1, s1, v, h2, J2, f1, f2, f3, f4, f5⟩ := w_meet (sc := sc) (d := d) l (x := sc.2 (w32 (i + 1)).toNat) (y := sc.2 (w32 (i + 2)).toNat)
  refine ⟨h2, J2, Vi k, Vi v, f2, f4, ?_⟩
  rw [q_L_law__776, if_pos c1, if_pos c2, e1, e_clI, if_pos c1, if_pos c2, (BM s1).1, f1, e_clI]
  exact tl1 (X := fun h9 => Ru sc (d + 60) mL_law_ 2052 [Vx 1, Vr (some 0), Vr (some 283), Vr (some 303), Vi i, Vi k, Vi v] [] h9) (Y := fun h9 => some (.inl (Vi 0), h9)) f2.1.1 f3 f5
theorem s_824 (l : LInv h I) (c1 : 0 ≤ w32 (i + 1) ∧ w32 (i + 1) < sc.1) (c2 : 0 ≤ w32 (i + 2) ∧ w32 (i + 2) < sc.1) {u5 u6 : am_V} : ∃ h2 J2 u7 u8, LInv h2 J2 ∧ Bd h h2 ∧ Ru sc (d + 60) mL_law_ 824 [Vx 1, Vr (some 0), Vr (some 283), Vr (some 303), Vi i, u5, u6] [] (hI h I) = Ru sc (d + 60) mL_law_ 2052 [Vx 1, Vr (some 0), Vr (some 283), Vr (some 303), Vi i, u7, u8] [] (hI h2 J2) := by
  obtain ⟨k, h1, J1, e1, s1, v, h2, J2, f1, f2, f3, f4, f5⟩ := w_halfway (sc := sc) (d := d) l (x := sc.2 (w32 (i + 1)).toNat) (y := sc.2 (w32 (i + 2)).toNat)
  refine ⟨h2, J2, Vi k, Vi v, f2, f4, ?_⟩
  rw [q_L_law__824, if_pos c1, if_pos c2, e1, e_clI, if_pos c1, if_pos c2, (BM s1).1, f1, e_clI]
  exact tl0 (X := fun h9 => Ru sc (d + 60) mL_law_ 2052 [Vx 1, Vr (some 0), Vr (some 283), Vr (some 303), Vi i, Vi k, Vi v] [] h9) (Y := fun h9 => some (.inl (Vi 0), h9)) f2.1.1 f3 f5
theorem s_869 (l : LInv h I) (c1 : 0 ≤ w32 (i + 1) ∧ w32 (i + 1) < sc.1) (c2 : 0 ≤ w32 (i + 2) ∧ w32 (i + 2) < sc.1) {u5 u6 : am_V} : ∃ h2 J2 u7 u8, LInv h2 J2 ∧ Bd h h2 ∧ Ru sc (d + 60) mL_law_ 869 [Vx 1, Vr (some 0), Vr (some 283), Vr (some 303), Vi i, u5, u6] [] (hI h I) = Ru sc (d + 60) mL_law_ 2052 [Vx 1, Vr (some 0), Vr (some 283), Vr (some 303), Vi i, u7, u8] [] (hI h2 J2) := by
  obtain ⟨k, h1, J1, e1, s1, v, h2, J2, f1, f2, f3, f4, f5⟩ := w_sees (sc := sc) (d := d) l (x := sc.2 (w32 (i + 1)).toNat) (y := sc.2 (w32 (i + 2)).toNat)
  refine ⟨h2, J2, Vi k, Vi v, f2, f4, ?_⟩
  rw [q_L_law__869, if_pos c1, if_pos c2, e1, e_clI, if_pos c1, if_pos c2, (BM s1).1, f1, e_clI]
  exact tl1 (X := fun h9 => Ru sc (d + 60) mL_law_ 2052 [Vx 1, Vr (some 0), Vr (some 283), Vr (some 303), Vi i, Vi k, Vi v] [] h9) (Y := fun h9 => some (.inl (Vi 0), h9)) f2.1.1 f3 f5
theorem s_917 (l : LInv h I) {u5 u6 : am_V} : ∃ h2 J2 u7 u8, LInv h2 J2 ∧ Bd h h2 ∧ Ru sc (d + 60) mL_law_ 917 [Vx 1, Vr (some 0), Vr (some 283), Vr (some 303), Vi i, u5, u6] [] (hI h I) = Ru sc (d + 60) mL_law_ 2052 [Vx 1, Vr (some 0), Vr (some 283), Vr (some 303), Vi i, u7, u8] [] (hI h2 J2) := by
  have p : Pub h I (Cl sc (d + 59) mX11_waves [Vr (some 0)]) (Cl sc (d + 59) mX12_waves [Vr (some 283)]) cdA := p_waves l.1
  obtain ⟨v, h1, J1, h2, J2, e1, s1, f1, f2, f3⟩ := drOf l (by decide) (by decide) (by decide) p
  refine ⟨h2, J2, u5, u6, f2, f3, ?_⟩
  rw [q_L_law__917, (BO l.1.1).1, e1, e_clI, (BM s1).1, f1, e_clI, if_pos rfl]
theorem s_924 (l : LInv h I) {u5 u6 : am_V} : ∃ h2 J2 u7 u8, LInv h2 J2 ∧ Bd h h2 ∧ Ru sc (d + 60) mL_law_ 924 [Vx 1, Vr (some 0), Vr (some 283), Vr (some 303), Vi i, u5, u6] [] (hI h I) = Ru sc (d + 60) mL_law_ 2052 [Vx 1, Vr (some 0), Vr (some 283), Vr (some 303), Vi i, u7, u8] [] (hI h2 J2) := by
  have p : Pub h I (Cl sc (d + 59) mX11_hidden [Vr (some 0)]) (Cl sc (d + 59) mX12_hidden [Vr (some 283)]) cdA := p_hidden l.1
  obtain ⟨v, h1, J1, h2, J2, e1, s1, f1, f2, f3⟩ := drOf l (by decide) (by decide) (by decide) p
  refine ⟨h2, J2, u5, u6, f2, f3, ?_⟩
  rw [q_L_law__924, (BO l.1.1).1, e1, e_clI, (BM s1).1, f1, e_clI, if_pos rfl]
theorem s_931 (l : LInv h I) (c1 : 0 ≤ w32 (i + 1) ∧ w32 (i + 1) < sc.1) (c2 : 0 ≤ w32 (i + 2) ∧ w32 (i + 2) < sc.1) (c3 : 0 ≤ w32 (i + 3) ∧ w32 (i + 3) < sc.1) {u5 u6 : am_V} : ∃ h2 J2 u7 u8, LInv h2 J2 ∧ Bd h h2 ∧ Ru sc (d + 60) mL_law_ 931 [Vx 1, Vr (some 0), Vr (some 283), Vr (some 303), Vi i, u5, u6] [] (hI h I) = Ru sc (d + 60) mL_law_ 2052 [Vx 1, Vr (some 0), Vr (some 283), Vr (some 303), Vi i, u7, u8] [] (hI h2 J2) := by
  obtain ⟨k, h1, J1, e1, s1, v, h2, J2, f1, f2, f3, f4, f5⟩ := w_pulls (sc := sc) (d := d) l (x := sc.2 (w32 (i + 1)).toNat) (y := sc.2 (w32 (i + 2)).toNat) (z := sc.2 (w32 (i + 3)).toNat)
  refine ⟨h2, J2, Vi k, Vi v, f2, f4, ?_⟩
  rw [q_L_law__931, if_pos c1, if_pos c2, if_pos c3, e1, e_clI, if_pos c1, if_pos c2, if_pos c3, (BM s1).1, f1, e_clI]
  exact tl0 (X := fun h9 => Ru sc (d + 60) mL_law_ 2052 [Vx 1, Vr (some 0), Vr (some 283), Vr (some 303), Vi i, Vi k, Vi v] [] h9) (Y := fun h9 => some (.inl (Vi 0), h9)) f2.1.1 f3 f5
theorem s_986 (l : LInv h I) (c1 : 0 ≤ w32 (i + 1) ∧ w32 (i + 1) < sc.1) (c2 : 0 ≤ w32 (i + 2) ∧ w32 (i + 2) < sc.1) {u5 u6 : am_V} : ∃ h2 J2 u7 u8, LInv h2 J2 ∧ Bd h h2 ∧ Ru sc (d + 60) mL_law_ 986 [Vx 1, Vr (some 0), Vr (some 283), Vr (some 303), Vi i, u5, u6] [] (hI h I) = Ru sc (d + 60) mL_law_ 2052 [Vx 1, Vr (some 0), Vr (some 283), Vr (some 303), Vi i, u7, u8] [] (hI h2 J2) := by
  obtain ⟨k, h1, J1, e1, s1, v, h2, J2, f1, f2, f3, f4, f5⟩ := w_lowest (sc := sc) (d := d) l (x := sc.2 (w32 (i + 1)).toNat) (y := sc.2 (w32 (i + 2)).toNat)
  refine ⟨h2, J2, Vi k, Vi v, f2, f4, ?_⟩
  rw [q_L_law__986, if_pos c1, if_pos c2, e1, e_clI, if_pos c1, if_pos c2, (BM s1).1, f1, e_clI]
  exact tl0 (X := fun h9 => Ru sc (d + 60) mL_law_ 2052 [Vx 1, Vr (some 0), Vr (some 283), Vr (some 303), Vi i, Vi k, Vi v] [] h9) (Y := fun h9 => some (.inl (Vi 0), h9)) f2.1.1 f3 f5
theorem s_1031 (l : LInv h I) (c1 : 0 ≤ w32 (i + 1) ∧ w32 (i + 1) < sc.1) (c2 : 0 ≤ w32 (i + 2) ∧ w32 (i + 2) < sc.1) (c3 : 0 ≤ w32 (i + 3) ∧ w32 (i + 3) < sc.1) {u5 u6 : am_V} : ∃ h2 J2 u7 u8, LInv h2 J2 ∧ Bd h h2 ∧ Ru sc (d + 60) mL_law_ 1031 [Vx 1, Vr (some 0), Vr (some 283), Vr (some 303), Vi i, u5, u6] [] (hI h I) = Ru sc (d + 60) mL_law_ 2052 [Vx 1, Vr (some 0), Vr (some 283), Vr (some 303), Vi i, u7, u8] [] (hI h2 J2) := by
  obtain ⟨k, h1, J1, e1, s1, v, h2, J2, f1, f2, f3, f4, f5⟩ := w_closes (sc := sc) (d := d) l (x := sc.2 (w32 (i + 1)).toNat) (y := sc.2 (w32 (i + 2)).toNat) (z := sc.2 (w32 (i + 3)).toNat)
  refine ⟨h2, J2, Vi k, Vi v, f2, f4, ?_⟩
  rw [q_L_law__1031, if_pos c1, if_pos c2, if_pos c3, e1, e_clI, if_pos c1, if_pos c2, if_pos c3, (BM s1).1, f1, e_clI]
  exact tl0 (X := fun h9 => Ru sc (d + 60) mL_law_ 2052 [Vx 1, Vr (some 0), Vr (some 283), Vr (some 303), Vi i, Vi k, Vi v] [] h9) (Y := fun h9 => some (.inl (Vi 0), h9)) f2.1.1 f3 f5
theorem s_1086 (l : LInv h I) (c1 : 0 ≤ w32 (i + 1) ∧ w32 (i + 1) < sc.1) {u5 u6 : am_V} : ∃ h2 J2 u7 u8, LInv h2 J2 ∧ Bd h h2 ∧ Ru sc (d + 60) mL_law_ 1086 [Vx 1, Vr (some 0), Vr (some 283), Vr (some 303), Vi i, u5, u6] [] (hI h I) = Ru sc (d + 60) mL_law_ 2052 [Vx 1, Vr (some 0), Vr (some 283), Vr (some 303), Vi i, u7, u8] [] (hI h2 J2) := by
  obtain ⟨k, h1, J1, e1, s1, v, h2, J2, f1, f2, f3, f4, f5⟩ := w_lands (sc := sc) (d := d) l (x := sc.2 (w32 (i + 1)).toNat)
  refine ⟨h2, J2, Vi k, Vi v, f2, f4, ?_⟩
  rw [q_L_law__1086, if_pos c1, e1, e_clI, if_pos c1, (BM s1).1, f1, e_clI]
  exact tl0 (X := fun h9 => Ru sc (d + 60) mL_law_ 2052 [Vx 1, Vr (some 0), Vr (some 283), Vr (some 303), Vi i, Vi k, Vi v] [] h9) (Y := fun h9 => some (.inl (Vi 0), h9)) f2.1.1 f3 f5
theorem s_1121 (l : LInv h I) (c1 : 0 ≤ w32 (i + 1) ∧ w32 (i + 1) < sc.1) {u5 u6 : am_V} : ∃ h2 J2 u7 u8, LInv h2 J2 ∧ Bd h h2 ∧ Ru sc (d + 60) mL_law_ 1121 [Vx 1, Vr (some 0), Vr (some 283), Vr (some 303), Vi i, u5, u6] [] (hI h I) = Ru sc (d + 60) mL_law_ 2052 [Vx 1, Vr (some 0), Vr (some 283), Vr (some 303), Vi i, u7, u8] [] (hI h2 J2) := by
  obtain ⟨k, h1, J1, e1, s1, v, h2, J2, f1, f2, f3, f4, f5⟩ := w_wide (sc := sc) (d := d) l (x := sc.2 (w32 (i + 1)).toNat)
  refine ⟨h2, J2, Vi k, Vi v, f2, f4, ?_⟩
  rw [q_L_law__1121, if_pos c1, e1, e_clI, if_pos c1, (BM s1).1, f1, e_clI]
  exact tl0 (X := fun h9 => Ru sc (d + 60) mL_law_ 2052 [Vx 1, Vr (some 0), Vr (some 283), Vr (some 303), Vi i, Vi k, Vi v] [] h9) (Y := fun h9 => some (.inl (Vi 0), h9)) f2.1.1 f3 f5
theorem s_1156 (l : LInv h I) (c1 : 0 ≤ w32 (i + 1) ∧ w32 (i + 1) < sc.1) (c2 : 0 ≤ w32 (i + 2) ∧ w32 (i + 2) < sc.1) {u5 u6 : am_V} : ∃ h2 J2 u7 u8, LInv h2 J2 ∧ Bd h h2 ∧ Ru sc (d + 60) mL_law_ 1156 [Vx 1, Vr (some 0), Vr (some 283), Vr (some 303), Vi i, u5, u6] [] (hI h I) = Ru sc (d + 60) mL_law_ 2052 [Vx 1, Vr (some 0), Vr (some 283), Vr (some 303), Vi i, u7, u8] [] (hI h2 J2) := by
  obtain ⟨k, h1, J1, e1, s1, v, h2, J2, f1, f2, f3, f4, f5⟩ := w_land (sc := sc) (d := d) l (x := sc.2 (w32 (i + 1)).toNat) (y := sc.2 (w32 (i + 2)).toNat)
  refine ⟨h2, J2, Vi k, Vi v, f2, f4, ?_⟩
  rw [q_L_law__1156, if_pos c1, if_pos c2, e1, e_clI, if_pos c1, if_pos c2, (BM s1).1, f1, e_clI]
  exact tl0 (X := fun h9 => Ru sc (d + 60) mL_law_ 2052 [Vx 1, Vr (some 0), Vr (some 283), Vr (some 303), Vi i, Vi k, Vi v] [] h9) (Y := fun h9 => some (.inl (Vi 0), h9)) f2.1.1 f3 f5
theorem s_1201 (l : LInv h I) (c1 : 0 ≤ w32 (i + 1) ∧ w32 (i + 1) < sc.1) {u5 u6 : am_V} : ∃ h2 J2 u7 u8, LInv h2 J2 ∧ Bd h h2 ∧ Ru sc (d + 60) mL_law_ 1201 [Vx 1, Vr (some 0), Vr (some 283), Vr (some 303), Vi i, u5, u6] [] (hI h I) = Ru sc (d + 60) mL_law_ 2052 [Vx 1, Vr (some 0), Vr (some 283), Vr (some 303), Vi i, u7, u8] [] (hI h2 J2) := by
  obtain ⟨k, h1, J1, e1, s1, v, h2, J2, f1, f2, f3, f4, f5⟩ := w_gaps (sc := sc) (d := d) l (x := sc.2 (w32 (i + 1)).toNat)
  refine ⟨h2, J2, Vi k, Vi v, f2, f4, ?_⟩
  rw [q_L_law__1201, if_pos c1, e1, e_clI, if_pos c1, (BM s1).1, f1, e_clI]
  exact tl0 (X := fun h9 => Ru sc (d + 60) mL_law_ 2052 [Vx 1, Vr (some 0), Vr (some 283), Vr (some 303), Vi i, Vi k, Vi v] [] h9) (Y := fun h9 => some (.inl (Vi 0), h9)) f2.1.1 f3 f5
theorem s_1236 (l : LInv h I) (c1 : 0 ≤ w32 (i + 1) ∧ w32 (i + 1) < sc.1) {u5 u6 : am_V} : ∃ h2 J2 u7 u8, LInv h2 J2 ∧ Bd h h2 ∧ Ru sc (d + 60) mL_law_ 1236 [Vx 1, Vr (some 0), Vr (some 283), Vr (some 303), Vi i, u5, u6] [] (hI h I) = Ru sc (d + 60) mL_law_ 2052 [Vx 1, Vr (some 0), Vr (some 283), Vr (some 303), Vi i, u7, u8] [] (hI h2 J2) := by
  obtain ⟨k, h1, J1, e1, s1, v, h2, J2, f1, f2, f3, f4, f5⟩ := w_all (sc := sc) (d := d) l (x := sc.2 (w32 (i + 1)).toNat)
  refine ⟨h2, J2, Vi k, Vi v, f2, f4, ?_⟩
  rw [q_L_law__1236, if_pos c1, e1, e_clI, if_pos c1, (BM s1).1, f1, e_clI]
  exact tl1 (X := fun h9 => Ru sc (d + 60) mL_law_ 2052 [Vx 1, Vr (some 0), Vr (some 283), Vr (some 303), Vi i, Vi k, Vi v] [] h9) (Y := fun h9 => some (.inl (Vi 0), h9)) f2.1.1 f3 f5
theorem s_1274 (l : LInv h I) {u5 u6 : am_V} : ∃ h2 J2 u7 u8, LInv h2 J2 ∧ Bd h h2 ∧ Ru sc (d + 60) mL_law_ 1274 [Vx 1, Vr (some 0), Vr (some 283), Vr (some 303), Vi i, u5, u6] [] (hI h I) = Ru sc (d + 60) mL_law_ 2052 [Vx 1, Vr (some 0), Vr (some 283), Vr (some 303), Vi i, u7, u8] [] (hI h2 J2) := by
  have p : Pub h I (Cl sc (d + 59) mX11_reach [Vr (some 0)]) (Cl sc (d + 59) mX12_reach [Vr (some 283)]) cdA := p_reach l.1
  obtain ⟨v, h1, J1, h2, J2, e1, s1, f1, f2, f3⟩ := drOf l (by decide) (by decide) (by decide) p
  refine ⟨h2, J2, u5, u6, f2, f3, ?_⟩
  rw [q_L_law__1274, (BO l.1.1).1, e1, e_clI, (BM s1).1, f1, e_clI, if_pos rfl]
theorem s_1281 (l : LInv h I) {u5 u6 : am_V} : ∃ h2 J2 u7 u8, LInv h2 J2 ∧ Bd h h2 ∧ Ru sc (d + 60) mL_law_ 1281 [Vx 1, Vr (some 0), Vr (some 283), Vr (some 303), Vi i, u5, u6] [] (hI h I) = Ru sc (d + 60) mL_law_ 2052 [Vx 1, Vr (some 0), Vr (some 283), Vr (some 303), Vi i, u7, u8] [] (hI h2 J2) := by
  have p : Pub h I (Cl sc (d + 59) mX11_ladders [Vr (some 0)]) (Cl sc (d + 59) mX12_ladders [Vr (some 283)]) cdA := p_ladders l.1
  obtain ⟨v, h1, J1, h2, J2, e1, s1, f1, f2, f3⟩ := drOf l (by decide) (by decide) (by decide) p
  refine ⟨h2, J2, u5, u6, f2, f3, ?_⟩
  rw [q_L_law__1281, (BO l.1.1).1, e1, e_clI, (BM s1).1, f1, e_clI, if_pos rfl]
theorem s_1288 (l : LInv h I) (c1 : 0 ≤ w32 (i + 1) ∧ w32 (i + 1) < sc.1) (c2 : 0 ≤ w32 (i + 2) ∧ w32 (i + 2) < sc.1) {u5 u6 : am_V} : ∃ h2 J2 u7 u8, LInv h2 J2 ∧ Bd h h2 ∧ Ru sc (d + 60) mL_law_ 1288 [Vx 1, Vr (some 0), Vr (some 283), Vr (some 303), Vi i, u5, u6] [] (hI h I) = Ru sc (d + 60) mL_law_ 2052 [Vx 1, Vr (some 0), Vr (some 283), Vr (some 303), Vi i, u7, u8] [] (hI h2 J2) := by
  obtain ⟨k, h1, J1, e1, s1, v, h2, J2, f1, f2, f3, f4, f5⟩ := w_one (sc := sc) (d := d) l (x := sc.2 (w32 (i + 1)).toNat) (y := sc.2 (w32 (i + 2)).toNat)
  refine ⟨h2, J2, Vi k, Vi v, f2, f4, ?_⟩
  rw [q_L_law__1288, if_pos c1, if_pos c2, e1, e_clI, if_pos c1, if_pos c2, (BM s1).1, f1, e_clI]
  exact tl0 (X := fun h9 => Ru sc (d + 60) mL_law_ 2052 [Vx 1, Vr (some 0), Vr (some 283), Vr (some 303), Vi i, Vi k, Vi v] [] h9) (Y := fun h9 => some (.inl (Vi 0), h9)) f2.1.1 f3 f5
theorem s_1333 (l : LInv h I) (c1 : 0 ≤ w32 (i + 1) ∧ w32 (i + 1) < sc.1) (c2 : 0 ≤ w32 (i + 2) ∧ w32 (i + 2) < sc.1) (c3 : 0 ≤ w32 (i + 3) ∧ w32 (i + 3) < sc.1) {u5 u6 : am_V} : ∃ h2 J2 u7 u8, LInv h2 J2 ∧ Bd h h2 ∧ Ru sc (d + 60) mL_law_ 1333 [Vx 1, Vr (some 0), Vr (some 283), Vr (some 303), Vi i, u5, u6] [] (hI h I) = Ru sc (d + 60) mL_law_ 2052 [Vx 1, Vr (some 0), Vr (some 283), Vr (some 303), Vi i, u7, u8] [] (hI h2 J2) := by
  obtain ⟨k, h1, J1, e1, s1, v, h2, J2, f1, f2, f3, f4, f5⟩ := w_walk (sc := sc) (d := d) l (x := sc.2 (w32 (i + 1)).toNat) (y := sc.2 (w32 (i + 2)).toNat) (z := sc.2 (w32 (i + 3)).toNat)
  refine ⟨h2, J2, Vi k, Vi v, f2, f4, ?_⟩
  rw [q_L_law__1333, if_pos c1, if_pos c2, if_pos c3, e1, e_clI, if_pos c1, if_pos c2, if_pos c3, (BM s1).1, f1, e_clI]
  exact tl0 (X := fun h9 => Ru sc (d + 60) mL_law_ 2052 [Vx 1, Vr (some 0), Vr (some 283), Vr (some 303), Vi i, Vi k, Vi v] [] h9) (Y := fun h9 => some (.inl (Vi 0), h9)) f2.1.1 f3 f5
theorem s_1388 (l : LInv h I) (c1 : 0 ≤ w32 (i + 1) ∧ w32 (i + 1) < sc.1) {u5 u6 : am_V} : ∃ h2 J2 u7 u8, LInv h2 J2 ∧ Bd h h2 ∧ Ru sc (d + 60) mL_law_ 1388 [Vx 1, Vr (some 0), Vr (some 283), Vr (some 303), Vi i, u5, u6] [] (hI h I) = Ru sc (d + 60) mL_law_ 2052 [Vx 1, Vr (some 0), Vr (some 283), Vr (some 303), Vi i, u7, u8] [] (hI h2 J2) := by
  obtain ⟨k, h1, J1, e1, s1, v, h2, J2, f1, f2, f3, f4, f5⟩ := w_hangs (sc := sc) (d := d) l (x := sc.2 (w32 (i + 1)).toNat)
  refine ⟨h2, J2, Vi k, Vi v, f2, f4, ?_⟩
  rw [q_L_law__1388, if_pos c1, e1, e_clI, if_pos c1, (BM s1).1, f1, e_clI]
  exact tl0 (X := fun h9 => Ru sc (d + 60) mL_law_ 2052 [Vx 1, Vr (some 0), Vr (some 283), Vr (some 303), Vi i, Vi k, Vi v] [] h9) (Y := fun h9 => some (.inl (Vi 0), h9)) f2.1.1 f3 f5
theorem s_1423 (l : LInv h I) (c1 : 0 ≤ w32 (i + 1) ∧ w32 (i + 1) < sc.1) {u5 u6 : am_V} : ∃ h2 J2 u7 u8, LInv h2 J2 ∧ Bd h h2 ∧ Ru sc (d + 60) mL_law_ 1423 [Vx 1, Vr (some 0), Vr (some 283), Vr (some 303), Vi i, u5, u6] [] (hI h I) = Ru sc (d + 60) mL_law_ 2052 [Vx 1, Vr (some 0), Vr (some 283), Vr (some 303), Vi i, u7, u8] [] (hI h2 J2) := by
  obtain ⟨k, h1, J1, e1, s1, v, h2, J2, f1, f2, f3, f4, f5⟩ := w_ends (sc := sc) (d := d) l (x := sc.2 (w32 (i + 1)).toNat)
  refine ⟨h2, J2, Vi k, Vi v, f2, f4, ?_⟩
  rw [q_L_law__1423, if_pos c1, e1, e_clI, if_pos c1, (BM s1).1, f1, e_clI]
  exact tl0 (X := fun h9 => Ru sc (d + 60) mL_law_ 2052 [Vx 1, Vr (some 0), Vr (some 283), Vr (some 303), Vi i, Vi k, Vi v] [] h9) (Y := fun h9 => some (.inl (Vi 0), h9)) f2.1.1 f3 f5
theorem s_1458 (l : LInv h I) (c1 : 0 ≤ w32 (i + 1) ∧ w32 (i + 1) < sc.1) {u5 u6 : am_V} : ∃ h2 J2 u7 u8, LInv h2 J2 ∧ Bd h h2 ∧ Ru sc (d + 60) mL_law_ 1458 [Vx 1, Vr (some 0), Vr (some 283), Vr (some 303), Vi i, u5, u6] [] (hI h I) = Ru sc (d + 60) mL_law_ 2052 [Vx 1, Vr (some 0), Vr (some 283), Vr (some 303), Vi i, u7, u8] [] (hI h2 J2) := by
  by_cases hy : sc.2 (w32 (i + 1)).toNat = 0
  · obtain ⟨k, h1, J1, e1, s1, v, h2, J2, f1, f2, f3, f4, f5⟩ := w_seen (sc := sc) (d := d) l (x := 0)
    refine ⟨h2, J2, Vi k, Vi v, f2, f4, ?_⟩
    rw [q_L_law__1458, if_pos c1, if_pos hy, e1, e_clI, if_pos c1, if_pos hy, q_L_law__1482, (BM s1).1, f1, e_clI]
    exact tl0 (X := fun h9 => Ru sc (d + 60) mL_law_ 2052 [Vx 1, Vr (some 0), Vr (some 283), Vr (some 303), Vi i, Vi k, Vi v] [] h9) (Y := fun h9 => some (.inl (Vi 0), h9)) f2.1.1 f3 f5
  · obtain ⟨k, h1, J1, e1, s1, v, h2, J2, f1, f2, f3, f4, f5⟩ := w_seen (sc := sc) (d := d) l (x := 1)
    refine ⟨h2, J2, Vi k, Vi v, f2, f4, ?_⟩
    rw [q_L_law__1458, if_pos c1, if_neg hy, e1, e_clI, if_pos c1, if_neg hy, q_L_law__1482, (BM s1).1, f1, e_clI]
    exact tl0 (X := fun h9 => Ru sc (d + 60) mL_law_ 2052 [Vx 1, Vr (some 0), Vr (some 283), Vr (some 303), Vi i, Vi k, Vi v] [] h9) (Y := fun h9 => some (.inl (Vi 0), h9)) f2.1.1 f3 f5
theorem s_1502 (l : LInv h I) {u5 u6 : am_V} : ∃ h2 J2 u7 u8, LInv h2 J2 ∧ Bd h h2 ∧ Ru sc (d + 60) mL_law_ 1502 [Vx 1, Vr (some 0), Vr (some 283), Vr (some 303), Vi i, u5, u6] [] (hI h I) = Ru sc (d + 60) mL_law_ 2052 [Vx 1, Vr (some 0), Vr (some 283), Vr (some 303), Vi i, u7, u8] [] (hI h2 J2) := by
  obtain ⟨k, h1, J1, e1, s1, v, h2, J2, f1, f2, f3, f4, f5⟩ := w_ask (sc := sc) (d := d) l
  refine ⟨h2, J2, Vi k, Vi v, f2, f4, ?_⟩
  rw [q_L_law__1502, e1, e_clI, (BM s1).1, f1, e_clI]
  exact tl0 (X := fun h9 => Ru sc (d + 60) mL_law_ 2052 [Vx 1, Vr (some 0), Vr (some 283), Vr (some 303), Vi i, Vi k, Vi v] [] h9) (Y := fun h9 => some (.inl (Vi 0), h9)) f2.1.1 f3 f5
theorem s_1527 (l : LInv h I) (c1 : 0 ≤ w32 (i + 1) ∧ w32 (i + 1) < sc.1) (c2 : 0 ≤ w32 (i + 2) ∧ w32 (i + 2) < sc.1) {u5 u6 : am_V} : ∃ h2 J2 u7 u8, LInv h2 J2 ∧ Bd h h2 ∧ Ru sc (d + 60) mL_law_ 1527 [Vx 1, Vr (some 0), Vr (some 283), Vr (some 303), Vi i, u5, u6] [] (hI h I) = Ru sc (d + 60) mL_law_ 2052 [Vx 1, Vr (some 0), Vr (some 283), Vr (some 303), Vi i, u7, u8] [] (hI h2 J2) := by
  obtain ⟨k, h1, J1, e1, s1, v, h2, J2, f1, f2, f3, f4, f5⟩ := w_loses (sc := sc) (d := d) l (x := sc.2 (w32 (i + 1)).toNat) (y := sc.2 (w32 (i + 2)).toNat)
  refine ⟨h2, J2, Vi k, Vi v, f2, f4, ?_⟩
  rw [q_L_law__1527, if_pos c1, if_pos c2, e1, e_clI, if_pos c1, if_pos c2, (BM s1).1, f1, e_clI]
  exact tl0 (X := fun h9 => Ru sc (d + 60) mL_law_ 2052 [Vx 1, Vr (some 0), Vr (some 283), Vr (some 303), Vi i, Vi k, Vi v] [] h9) (Y := fun h9 => some (.inl (Vi 0), h9)) f2.1.1 f3 f5
theorem s_1572 (l : LInv h I) (c1 : 0 ≤ w32 (i + 1) ∧ w32 (i + 1) < sc.1) {u5 u6 : am_V} : ∃ h2 J2 u7 u8, LInv h2 J2 ∧ Bd h h2 ∧ Ru sc (d + 60) mL_law_ 1572 [Vx 1, Vr (some 0), Vr (some 283), Vr (some 303), Vi i, u5, u6] [] (hI h I) = Ru sc (d + 60) mL_law_ 2052 [Vx 1, Vr (some 0), Vr (some 283), Vr (some 303), Vi i, u7, u8] [] (hI h2 J2) := by
  obtain ⟨k, h1, J1, e1, s1, v, h2, J2, f1, f2, f3, f4, f5⟩ := w_pairs (sc := sc) (d := d) l (x := sc.2 (w32 (i + 1)).toNat)
  refine ⟨h2, J2, Vi k, Vi v, f2, f4, ?_⟩
  rw [q_L_law__1572, if_pos c1, e1, e_clI, if_pos c1, (BM s1).1, f1, e_clI]
  exact tl0 (X := fun h9 => Ru sc (d + 60) mL_law_ 2052 [Vx 1, Vr (some 0), Vr (some 283), Vr (some 303), Vi i, Vi k, Vi v] [] h9) (Y := fun h9 => some (.inl (Vi 0), h9)) f2.1.1 f3 f5
theorem s_1607 (l : LInv h I) (c1 : 0 ≤ w32 (i + 1) ∧ w32 (i + 1) < sc.1) (c2 : 0 ≤ w32 (i + 2) ∧ w32 (i + 2) < sc.1) {u5 u6 : am_V} : ∃ h2 J2 u7 u8, LInv h2 J2 ∧ Bd h h2 ∧ Ru sc (d + 60) mL_law_ 1607 [Vx 1, Vr (some 0), Vr (some 283), Vr (some 303), Vi i, u5, u6] [] (hI h I) = Ru sc (d + 60) mL_law_ 2052 [Vx 1, Vr (some 0), Vr (some 283), Vr (some 303), Vi i, u7, u8] [] (hI h2 J2) := by
  obtain ⟨k, h1, J1, e1, s1, v, h2, J2, f1, f2, f3, f4, f5⟩ := w_rests (sc := sc) (d := d) l (x := sc.2 (w32 (i + 1)).toNat) (y := sc.2 (w32 (i + 2)).toNat)
  refine ⟨h2, J2, Vi k, Vi v, f2, f4, ?_⟩
  rw [q_L_law__1607, if_pos c1, if_pos c2, e1, e_clI, if_pos c1, if_pos c2, (BM s1).1, f1, e_clI]
  exact tl0 (X := fun h9 => Ru sc (d + 60) mL_law_ 2052 [Vx 1, Vr (some 0), Vr (some 283), Vr (some 303), Vi i, Vi k, Vi v] [] h9) (Y := fun h9 => some (.inl (Vi 0), h9)) f2.1.1 f3 f5
theorem s_1652 (l : LInv h I) (c1 : 0 ≤ w32 (i + 1) ∧ w32 (i + 1) < sc.1) (c2 : 0 ≤ w32 (i + 2) ∧ w32 (i + 2) < sc.1) {u5 u6 : am_V} : ∃ h2 J2 u7 u8, LInv h2 J2 ∧ Bd h h2 ∧ Ru sc (d + 60) mL_law_ 1652 [Vx 1, Vr (some 0), Vr (some 283), Vr (some 303), Vi i, u5, u6] [] (hI h I) = Ru sc (d + 60) mL_law_ 2052 [Vx 1, Vr (some 0), Vr (some 283), Vr (some 303), Vi i, u7, u8] [] (hI h2 J2) := by
  obtain ⟨k, h1, J1, e1, s1, v, h2, J2, f1, f2, f3, f4, f5⟩ := w_odds (sc := sc) (d := d) l (x := sc.2 (w32 (i + 1)).toNat) (y := sc.2 (w32 (i + 2)).toNat)
  refine ⟨h2, J2, Vi k, Vi v, f2, f4, ?_⟩
  rw [q_L_law__1652, if_pos c1, if_pos c2, e1, e_clI, if_pos c1, if_pos c2, (BM s1).1, f1, e_clI]
  exact tl0 (X := fun h9 => Ru sc (d + 60) mL_law_ 2052 [Vx 1, Vr (some 0), Vr (some 283), Vr (some 303), Vi i, Vi k, Vi v] [] h9) (Y := fun h9 => some (.inl (Vi 0), h9)) f2.1.1 f3 f5
theorem s_1697 (l : LInv h I) {u5 u6 : am_V} : ∃ h2 J2 u7 u8, LInv h2 J2 ∧ Bd h h2 ∧ Ru sc (d + 60) mL_law_ 1697 [Vx 1, Vr (some 0), Vr (some 283), Vr (some 303), Vi i, u5, u6] [] (hI h I) = Ru sc (d + 60) mL_law_ 2052 [Vx 1, Vr (some 0), Vr (some 283), Vr (some 303), Vi i, u7, u8] [] (hI h2 J2) := by
  have p : Pub h I (Cl sc (d + 59) mX11_oldest [Vr (some 0)]) (Cl sc (d + 59) mX12_oldest [Vr (some 283)]) cdA := p_oldest l.1
  obtain ⟨v, h1, J1, h2, J2, e1, s1, f1, f2, f3⟩ := drOf l (by decide) (by decide) (by decide) p
  refine ⟨h2, J2, u5, u6, f2, f3, ?_⟩
  rw [q_L_law__1697, (BO l.1.1).1, e1, e_clI, (BM s1).1, f1, e_clI, if_pos rfl]
theorem s_1704 (l : LInv h I) (c1 : 0 ≤ w32 (i + 1) ∧ w32 (i + 1) < sc.1) {u5 u6 : am_V} : ∃ h2 J2 u7 u8, LInv h2 J2 ∧ Bd h h2 ∧ Ru sc (d + 60) mL_law_ 1704 [Vx 1, Vr (some 0), Vr (some 283), Vr (some 303), Vi i, u5, u6] [] (hI h I) = Ru sc (d + 60) mL_law_ 2052 [Vx 1, Vr (some 0), Vr (some 283), Vr (some 303), Vi i, u7, u8] [] (hI h2 J2) := by
  by_cases hy : sc.2 (w32 (i + 1)).toNat = 0
  · have p : Pub h I (Cl sc (d + 59) mX11_highest [Vr (some 0), Vi 0]) (Cl sc (d + 59) mX12_highest [Vr (some 283), Vi 0]) cdA := p_highest l.1 (Or.inl rfl)
    obtain ⟨v, h1, J1, h2, J2, e1, s1, f1, f2, f3⟩ := drOf l (by decide) (by decide) (by decide) p
    refine ⟨h2, J2, u5, u6, f2, f3, ?_⟩
    rw [q_L_law__1704, if_pos c1, if_pos hy, q_L_law__1715, (BO l.1.1).1, e1, e_clI, if_pos c1, if_pos hy, (BM s1).1, f1, e_clI, if_pos rfl]
  · have p : Pub h I (Cl sc (d + 59) mX11_highest [Vr (some 0), Vi 1]) (Cl sc (d + 59) mX12_highest [Vr (some 283), Vi 1]) cdA := p_highest l.1 (Or.inr rfl)
    obtain ⟨v, h1, J1, h2, J2, e1, s1, f1, f2, f3⟩ := drOf l (by decide) (by decide) (by decide) p
    refine ⟨h2, J2, u5, u6, f2, f3, ?_⟩
    rw [q_L_law__1704, if_pos c1, if_neg hy, q_L_law__1715, (BO l.1.1).1, e1, e_clI, if_pos c1, if_neg hy, (BM s1).1, f1, e_clI, if_pos rfl]
theorem s_1730 (l : LInv h I) {u5 u6 : am_V} : ∃ h2 J2 u7 u8, LInv h2 J2 ∧ Bd h h2 ∧ Ru sc (d + 60) mL_law_ 1730 [Vx 1, Vr (some 0), Vr (some 283), Vr (some 303), Vi i, u5, u6] [] (hI h I) = Ru sc (d + 60) mL_law_ 2052 [Vx 1, Vr (some 0), Vr (some 283), Vr (some 303), Vi i, u7, u8] [] (hI h2 J2) := by
  have p : Pub h I (Cl sc (d + 59) mX11_sorest [Vr (some 0)]) (Cl sc (d + 59) mX12_sorest [Vr (some 283)]) cdA := p_sorest l.1
  obtain ⟨v, h1, J1, h2, J2, e1, s1, f1, f2, f3⟩ := drOf l (by decide) (by decide) (by decide) p
  refine ⟨h2, J2, u5, u6, f2, f3, ?_⟩
  rw [q_L_law__1730, (BO l.1.1).1, e1, e_clI, (BM s1).1, f1, e_clI, if_pos rfl]
theorem s_1737 (l : LInv h I) {u5 u6 : am_V} : ∃ h2 J2 u7 u8, LInv h2 J2 ∧ Bd h h2 ∧ Ru sc (d + 60) mL_law_ 1737 [Vx 1, Vr (some 0), Vr (some 283), Vr (some 303), Vi i, u5, u6] [] (hI h I) = Ru sc (d + 60) mL_law_ 2052 [Vx 1, Vr (some 0), Vr (some 283), Vr (some 303), Vi i, u7, u8] [] (hI h2 J2) := by
  have p : Pub h I (Cl sc (d + 59) mX11_twins [Vr (some 0)]) (Cl sc (d + 59) mX12_twins [Vr (some 283)]) cdA := p_twins l.1
  obtain ⟨v, h1, J1, h2, J2, e1, s1, f1, f2, f3⟩ := drOf l (by decide) (by decide) (by decide) p
  refine ⟨h2, J2, u5, u6, f2, f3, ?_⟩
  rw [q_L_law__1737, (BO l.1.1).1, e1, e_clI, (BM s1).1, f1, e_clI, if_pos rfl]
theorem s_1744 (l : LInv h I) (c1 : 0 ≤ w32 (i + 1) ∧ w32 (i + 1) < sc.1) (c2 : 0 ≤ w32 (i + 2) ∧ w32 (i + 2) < sc.1) {u5 u6 : am_V} : ∃ h2 J2 u7 u8, LInv h2 J2 ∧ Bd h h2 ∧ Ru sc (d + 60) mL_law_ 1744 [Vx 1, Vr (some 0), Vr (some 283), Vr (some 303), Vi i, u5, u6] [] (hI h I) = Ru sc (d + 60) mL_law_ 2052 [Vx 1, Vr (some 0), Vr (some 283), Vr (some 303), Vi i, u7, u8] [] (hI h2 J2) := by
  obtain ⟨k, h1, J1, e1, s1, v, h2, J2, f1, f2, f3, f4, f5⟩ := w_ahead (sc := sc) (d := d) l (x := sc.2 (w32 (i + 1)).toNat) (y := sc.2 (w32 (i + 2)).toNat)
  refine ⟨h2, J2, Vi k, Vi v, f2, f4, ?_⟩
  rw [q_L_law__1744, if_pos c1, if_pos c2, e1, e_clI, if_pos c1, if_pos c2, (BM s1).1, f1, e_clI]
  exact tl0 (X := fun h9 => Ru sc (d + 60) mL_law_ 2052 [Vx 1, Vr (some 0), Vr (some 283), Vr (some 303), Vi i, Vi k, Vi v] [] h9) (Y := fun h9 => some (.inl (Vi 0), h9)) f2.1.1 f3 f5
theorem s_1789 (l : LInv h I) (c1 : 0 ≤ w32 (i + 1) ∧ w32 (i + 1) < sc.1) (c2 : 0 ≤ w32 (i + 2) ∧ w32 (i + 2) < sc.1) {u5 u6 : am_V} : ∃ h2 J2 u7 u8, LInv h2 J2 ∧ Bd h h2 ∧ Ru sc (d + 60) mL_law_ 1789 [Vx 1, Vr (some 0), Vr (some 283), Vr (some 303), Vi i, u5, u6] [] (hI h I) = Ru sc (d + 60) mL_law_ 2052 [Vx 1, Vr (some 0), Vr (some 283), Vr (some 303), Vi i, u7, u8] [] (hI h2 J2) := by
  by_cases hy : sc.2 (w32 (i + 2)).toNat = 0
  · obtain ⟨k, h1, J1, e1, s1, v, h2, J2, f1, f2, f3, f4, f5⟩ := w_trial (sc := sc) (d := d) l (x := sc.2 (w32 (i + 1)).toNat) (y := 0)
    refine ⟨h2, J2, Vi k, Vi v, f2, f4, ?_⟩
    rw [q_L_law__1789, if_pos c1, if_pos c2, if_pos hy, q_L_law__1805, e1, e_clI, if_pos c1, if_pos c2, if_pos hy, q_L_law__1824, (BM s1).1, f1, e_clI]
    exact tl0 (X := fun h9 => Ru sc (d + 60) mL_law_ 2052 [Vx 1, Vr (some 0), Vr (some 283), Vr (some 303), Vi i, Vi k, Vi v] [] h9) (Y := fun h9 => some (.inl (Vi 0), h9)) f2.1.1 f3 f5
  · obtain ⟨k, h1, J1, e1, s1, v, h2, J2, f1, f2, f3, f4, f5⟩ := w_trial (sc := sc) (d := d) l (x := sc.2 (w32 (i + 1)).toNat) (y := 1)
    refine ⟨h2, J2, Vi k, Vi v, f2, f4, ?_⟩
    rw [q_L_law__1789, if_pos c1, if_pos c2, if_neg hy, q_L_law__1805, e1, e_clI, if_pos c1, if_pos c2, if_neg hy, q_L_law__1824, (BM s1).1, f1, e_clI]
    exact tl0 (X := fun h9 => Ru sc (d + 60) mL_law_ 2052 [Vx 1, Vr (some 0), Vr (some 283), Vr (some 303), Vi i, Vi k, Vi v] [] h9) (Y := fun h9 => some (.inl (Vi 0), h9)) f2.1.1 f3 f5
theorem s_1844 (l : LInv h I) (c1 : 0 ≤ w32 (i + 1) ∧ w32 (i + 1) < sc.1) (c2 : 0 ≤ w32 (i + 2) ∧ w32 (i + 2) < sc.1) {u5 u6 : am_V} : ∃ h2 J2 u7 u8, LInv h2 J2 ∧ Bd h h2 ∧ Ru sc (d + 60) mL_law_ 1844 [Vx 1, Vr (some 0), Vr (some 283), Vr (some 303), Vi i, u5, u6] [] (hI h I) = Ru sc (d + 60) mL_law_ 2052 [Vx 1, Vr (some 0), Vr (some 283), Vr (some 303), Vi i, u7, u8] [] (hI h2 J2) := by
  by_cases hy : sc.2 (w32 (i + 2)).toNat = 0
  · obtain ⟨k, h1, J1, e1, s1, v, h2, J2, f1, f2, f3, f4, f5⟩ := w_span (sc := sc) (d := d) l (x := sc.2 (w32 (i + 1)).toNat) (y := 0)
    refine ⟨h2, J2, Vi k, Vi v, f2, f4, ?_⟩
    rw [q_L_law__1844, if_pos c1, if_pos c2, if_pos hy, q_L_law__1860, e1, e_clI, if_pos c1, if_pos c2, if_pos hy, q_L_law__1879, (BM s1).1, f1, e_clI]
    exact tl0 (X := fun h9 => Ru sc (d + 60) mL_law_ 2052 [Vx 1, Vr (some 0), Vr (some 283), Vr (some 303), Vi i, Vi k, Vi v] [] h9) (Y := fun h9 => some (.inl (Vi 0), h9)) f2.1.1 f3 f5
  · obtain ⟨k, h1, J1, e1, s1, v, h2, J2, f1, f2, f3, f4, f5⟩ := w_span (sc := sc) (d := d) l (x := sc.2 (w32 (i + 1)).toNat) (y := 1)
    refine ⟨h2, J2, Vi k, Vi v, f2, f4, ?_⟩
    rw [q_L_law__1844, if_pos c1, if_pos c2, if_neg hy, q_L_law__1860, e1, e_clI, if_pos c1, if_pos c2, if_neg hy, q_L_law__1879, (BM s1).1, f1, e_clI]
    exact tl0 (X := fun h9 => Ru sc (d + 60) mL_law_ 2052 [Vx 1, Vr (some 0), Vr (some 283), Vr (some 303), Vi i, Vi k, Vi v] [] h9) (Y := fun h9 => some (.inl (Vi 0), h9)) f2.1.1 f3 f5
theorem s_1899 (l : LInv h I) (c1 : 0 ≤ w32 (i + 1) ∧ w32 (i + 1) < sc.1) (c2 : 0 ≤ w32 (i + 2) ∧ w32 (i + 2) < sc.1) {u5 u6 : am_V} : ∃ h2 J2 u7 u8, LInv h2 J2 ∧ Bd h h2 ∧ Ru sc (d + 60) mL_law_ 1899 [Vx 1, Vr (some 0), Vr (some 283), Vr (some 303), Vi i, u5, u6] [] (hI h I) = Ru sc (d + 60) mL_law_ 2052 [Vx 1, Vr (some 0), Vr (some 283), Vr (some 303), Vi i, u7, u8] [] (hI h2 J2) := by
  by_cases hy : sc.2 (w32 (i + 2)).toNat = 0
  · obtain ⟨k, h1, J1, e1, s1, v, h2, J2, f1, f2, f3, f4, f5⟩ := w_led (sc := sc) (d := d) l (x := sc.2 (w32 (i + 1)).toNat) (y := 0)
    refine ⟨h2, J2, Vi k, Vi v, f2, f4, ?_⟩
    rw [q_L_law__1899, if_pos c1, if_pos c2, if_pos hy, q_L_law__1915, e1, e_clI, if_pos c1, if_pos c2, if_pos hy, q_L_law__1934, (BM s1).1, f1, e_clI]
    exact tl0 (X := fun h9 => Ru sc (d + 60) mL_law_ 2052 [Vx 1, Vr (some 0), Vr (some 283), Vr (some 303), Vi i, Vi k, Vi v] [] h9) (Y := fun h9 => some (.inl (Vi 0), h9)) f2.1.1 f3 f5
  · obtain ⟨k, h1, J1, e1, s1, v, h2, J2, f1, f2, f3, f4, f5⟩ := w_led (sc := sc) (d := d) l (x := sc.2 (w32 (i + 1)).toNat) (y := 1)
    refine ⟨h2, J2, Vi k, Vi v, f2, f4, ?_⟩
    rw [q_L_law__1899, if_pos c1, if_pos c2, if_neg hy, q_L_law__1915, e1, e_clI, if_pos c1, if_pos c2, if_neg hy, q_L_law__1934, (BM s1).1, f1, e_clI]
    exact tl0 (X := fun h9 => Ru sc (d + 60) mL_law_ 2052 [Vx 1, Vr (some 0), Vr (some 283), Vr (some 303), Vi i, Vi k, Vi v] [] h9) (Y := fun h9 => some (.inl (Vi 0), h9)) f2.1.1 f3 f5
theorem s_1954 (l : LInv h I) (c1 : 0 ≤ w32 (i + 1) ∧ w32 (i + 1) < sc.1) (c2 : 0 ≤ w32 (i + 2) ∧ w32 (i + 2) < sc.1) {u5 u6 : am_V} : ∃ h2 J2 u7 u8, LInv h2 J2 ∧ Bd h h2 ∧ Ru sc (d + 60) mL_law_ 1954 [Vx 1, Vr (some 0), Vr (some 283), Vr (some 303), Vi i, u5, u6] [] (hI h I) = Ru sc (d + 60) mL_law_ 2052 [Vx 1, Vr (some 0), Vr (some 283), Vr (some 303), Vi i, u7, u8] [] (hI h2 J2) := by
  obtain ⟨k, h1, J1, e1, s1, v, h2, J2, f1, f2, f3, f4, f5⟩ := w_log (sc := sc) (d := d) l (x := sc.2 (w32 (i + 1)).toNat) (y := sc.2 (w32 (i + 2)).toNat)
  refine ⟨h2, J2, Vi k, Vi v, f2, f4, ?_⟩
  rw [q_L_law__1954, if_pos c1, if_pos c2, e1, e_clI, if_pos c1, if_pos c2, (BM s1).1, f1, e_clI]
  exact tl0 (X := fun h9 => Ru sc (d + 60) mL_law_ 2052 [Vx 1, Vr (some 0), Vr (some 283), Vr (some 303), Vi i, Vi k, Vi v] [] h9) (Y := fun h9 => some (.inl (Vi 0), h9)) f2.1.1 f3 f5
theorem s_1999 (l : LInv h I) (c1 : 0 ≤ w32 (i + 1) ∧ w32 (i + 1) < sc.1) (hs : ∀ j, i32 (sc.2 j)) {u5 u6 : am_V} : ∃ h2 J2 u7 u8, LInv h2 J2 ∧ Bd h h2 ∧ Ru sc (d + 60) mL_law_ 1999 [Vx 1, Vr (some 0), Vr (some 283), Vr (some 303), Vi i, u5, u6] [] (hI h I) = Ru sc (d + 60) mL_law_ 2052 [Vx 1, Vr (some 0), Vr (some 283), Vr (some 303), Vi i, u7, u8] [] (hI h2 J2) := by
  have p : Pub h I (Cl sc (d + 59) mX11_seed [Vr (some 0), Vi (sc.2 (w32 (i + 1)).toNat)]) (Cl sc (d + 59) mX12_seed [Vr (some 283), Vi (sc.2 (w32 (i + 1)).toNat)]) cdA := p_seed l.1 (hs _)
  obtain ⟨v, h1, J1, h2, J2, e1, s1, f1, f2, f3⟩ := drOf l (by decide) (by decide) (by decide) p
  refine ⟨h2, J2, u5, u6, f2, f3, ?_⟩
  rw [q_L_law__1999, if_pos c1, (BO l.1.1).1, e1, e_clI, if_pos c1, (BM s1).1, f1, e_clI, if_pos rfl]
theorem s_2016 (l : LInv h I) {u5 u6 : am_V} : ∃ h2 J2 u7 u8, LInv h2 J2 ∧ Bd h h2 ∧ Ru sc (d + 60) mL_law_ 2016 [Vx 1, Vr (some 0), Vr (some 283), Vr (some 303), Vi i, u5, u6] [] (hI h I) = Ru sc (d + 60) mL_law_ 2052 [Vx 1, Vr (some 0), Vr (some 283), Vr (some 303), Vi i, u7, u8] [] (hI h2 J2) := by
  have p : Pub h I (Cl sc (d + 59) mX11_undo [Vr (some 0)]) (Cl sc (d + 59) mX12_undo [Vr (some 283)]) cdA := p_undo l.1 (fun a ca => bb_county l.1.1 l.2 ca)
  obtain ⟨v, h1, J1, h2, J2, e1, s1, f1, f2, f3⟩ := drOf l (by decide) (by decide) (by decide) p
  refine ⟨h2, J2, u5, u6, f2, f3, ?_⟩
  rw [q_L_law__2016, (BO l.1.1).1, e1, e_clI, (BM s1).1, f1, e_clI, if_pos rfl]
theorem s_2023 (l : LInv h I) {u5 u6 : am_V} : ∃ h2 J2 u7 u8, LInv h2 J2 ∧ Bd h h2 ∧ Ru sc (d + 60) mL_law_ 2023 [Vx 1, Vr (some 0), Vr (some 283), Vr (some 303), Vi i, u5, u6] [] (hI h I) = Ru sc (d + 60) mL_law_ 2052 [Vx 1, Vr (some 0), Vr (some 283), Vr (some 303), Vi i, u7, u8] [] (hI h2 J2) := by
  have p : PubV h I (Cl sc (d + 59) mX11_image [Vr (some 0)]) (Cl sc (d + 59) mX12_image [Vr (some 283)]) := p_image l.1 (fun a ca => bb_county l.1.1 l.2 ca)
  obtain ⟨h1, J1, e1, s1, h2, J2, f1, f2, f3⟩ := p
  have B1 : BBh (hI h1 J1) := bb_Cl l.2 _ _ e1
  have B2 : BBh (hI h2 J2) := bb_Cl B1 _ _ f1
  refine ⟨h2, J2, u5, u6, ⟨f2, B2⟩, f3, ?_⟩
  rw [q_L_law__2023, (BO l.1.1).1, e1, e_clV, (BM s1).1, f1, e_clV]
theorem s_2028 (l : LInv h I) {u5 u6 : am_V} : ∃ h2 J2 u7 u8, LInv h2 J2 ∧ Bd h h2 ∧ Ru sc (d + 60) mL_law_ 2028 [Vx 1, Vr (some 0), Vr (some 283), Vr (some 303), Vi i, u5, u6] [] (hI h I) = Ru sc (d + 60) mL_law_ 2052 [Vx 1, Vr (some 0), Vr (some 283), Vr (some 303), Vi i, u7, u8] [] (hI h2 J2) := by
  have p : Pub h I (Cl sc (d + 59) mX11_back [Vr (some 0)]) (Cl sc (d + 59) mX12_back [Vr (some 283)]) cdA := p_back l.1 (fun a ca => bb_county l.1.1 l.2 ca)
  obtain ⟨v, h1, J1, h2, J2, e1, s1, f1, f2, f3⟩ := drOf l (by decide) (by decide) (by decide) p
  refine ⟨h2, J2, u5, u6, f2, f3, ?_⟩
  rw [q_L_law__2028, (BO l.1.1).1, e1, e_clI, (BM s1).1, f1, e_clI, if_pos rfl]
theorem s_2035 (l : LInv h I) (c1 : 0 ≤ w32 (i + 1) ∧ w32 (i + 1) < sc.1) {u5 u6 : am_V} : ∃ h2 J2 u7 u8, LInv h2 J2 ∧ Bd h h2 ∧ Ru sc (d + 60) mL_law_ 2035 [Vx 1, Vr (some 0), Vr (some 283), Vr (some 303), Vi i, u5, u6] [] (hI h I) = Ru sc (d + 60) mL_law_ 2052 [Vx 1, Vr (some 0), Vr (some 283), Vr (some 303), Vi i, u7, u8] [] (hI h2 J2) := by
  have p : Pub h I (Cl sc (d + 59) mX11_count [Vr (some 0), Vi (sc.2 (w32 (i + 1)).toNat)]) (Cl sc (d + 59) mX12_count [Vr (some 283), Vi (sc.2 (w32 (i + 1)).toNat)]) cdA := p_count l.1
  obtain ⟨v, h1, J1, h2, J2, e1, s1, f1, f2, f3⟩ := drOf l (by decide) (by decide) (by decide) p
  refine ⟨h2, J2, u5, u6, f2, f3, ?_⟩
  rw [q_L_law__2035, if_pos c1, (BO l.1.1).1, e1, e_clI, if_pos c1, (BM s1).1, f1, e_clI, if_pos rfl]
end
