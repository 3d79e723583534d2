/-! THE MACHINE'S RUNS: by depth of calls; the loops of one depth as a limit, with an equation and no fuel. -/
/-- what one step may be: a fixed answer, or a step on, or a way back -/
def am_lin (F : am_K → am_J → am_R) : Prop := (∃ c, ∀ rec jump, F rec jump = c) ∨ (∃ s l t h, ∀ rec jump, F rec jump = rec s l t h) ∨ (∃ i l t h, ∀ rec jump, F rec jump = jump i l t h)
theorem am_lin_c (c : am_R) : am_lin (fun _ _ => c) := Or.inl ⟨c, fun _ _ => rfl⟩
theorem am_lin_r (s : List am_E) (l t : List am_V) (h : am_H) : am_lin (fun rec _ => rec s l t h) := Or.inr (Or.inl ⟨s, l, t, h, fun _ _ => rfl⟩)
theorem am_lin_j (i : Nat) (l t : List am_V) (h : am_H) : am_lin (fun _ jump => jump i l t h) := Or.inr (Or.inr ⟨i, l, t, h, fun _ _ => rfl⟩)
theorem am_lin_ite {P : Prop} [Decidable P] {F G : am_K → am_J → am_R} (hF : am_lin F) (hG : am_lin G) : am_lin (fun rec jump => if P then F rec jump else G rec jump) := by
  by_cases h : P
  · simpa [h] using hF
  · simpa [h] using hG
theorem am_lin_if {c : ClassFile.Cond} {x y : Int} {F G : am_K → am_J → am_R} (hF : am_lin F) (hG : am_lin G) : am_lin (fun rec jump => am_if c x y (F rec jump) (G rec jump)) := by
  cases c <;> exact am_lin_ite (by assumption) (by assumption)
section
variable (sc : Nat × (Nat → Int)) (lt : Nat → List Int) (cd : List am_E) (hd : List (Nat × Nat × Nat × Nat)) (call : am_C)
theorem am_lin_to (xs : List Int) (i : Nat) (ls st : List am_V) (h : am_H) : am_lin (fun rec jump => am_to cd jump rec xs i ls st h) := am_lin_ite (am_lin_r _ _ _ _) (am_lin_j _ _ _ _)
theorem am_lin_sw {x : Int} {J : Nat → am_K → am_J → am_R} (hJ : ∀ j, am_lin (J j)) : ∀ (n : Nat) (v : Int) (j : Nat), am_lin (fun rec jump => am_sw x (fun j => J j rec jump) v n j)
  | 0, _, _ => hJ 0
  | n + 1, v, j => am_lin_ite (hJ j) (am_lin_sw hJ n (v + 1) (j + 1))
theorem am_lin_lk {x : Int} {J : Nat → am_K → am_J → am_R} (hJ : ∀ j, am_lin (J j)) : ∀ (l : List (Int × Int)) (j : Nat), am_lin (fun rec jump => am_lk x (fun j => J j rec jump) l j)
  | [], _ => hJ 0
  | _ :: l, j => am_lin_ite (hJ j) (am_lin_lk hJ l (j + 1))
theorem am_lin_hx (pc : Nat) (ls : List am_V) (e : Nat) (h : am_H) : am_lin (fun _ jump => am_hx hd jump pc ls e h) := by
  unfold am_hx
  cases am_find hd pc e with
  | none => exact am_lin_c _
  | some t => exact am_lin_j _ _ _ _
theorem am_lin_inv (pc : Nat) (xs : List Int) (rest : List am_E) (ls st : List am_V) (h : am_H) : am_lin (fun rec jump => am_inv hd call jump rec pc xs rest ls st h) := by
  have hgo : am_lin (fun rec jump => (match (am_arg xs 3).toNat with
    | 0 => clV (call (am_arg xs 1).toNat (st.take (am_arg xs 2).toNat).reverse h) (am_hx hd jump pc ls) (fun h1 => rec rest ls (st.drop (am_arg xs 2).toNat) h1)
    | 1 => clI (call (am_arg xs 1).toNat (st.take (am_arg xs 2).toNat).reverse h) (am_hx hd jump pc ls) (fun v h1 => rec rest ls (Vi v :: st.drop (am_arg xs 2).toNat) h1)
    | _ => clP (call (am_arg xs 1).toNat (st.take (am_arg xs 2).toNat).reverse h) (am_hx hd jump pc ls) (fun v h1 => rec rest ls (Vr v :: st.drop (am_arg xs 2).toNat) h1) : am_R)) := by
    generalize call (am_arg xs 1).toNat (st.take (am_arg xs 2).toNat).reverse h = r
    split
    · rcases r with _ | ⟨v | e, h1⟩
      · exact am_lin_c _
      · exact am_lin_r _ _ _ _
      · exact am_lin_hx hd pc ls e h1
    · rcases r with _ | ⟨(x | v) | e, h1⟩
      · exact am_lin_c _
      · exact am_lin_r _ _ _ _
      · exact am_lin_c _
      · exact am_lin_hx hd pc ls e h1
    · rcases r with _ | ⟨(x | (v | w)) | e, h1⟩
      · exact am_lin_c _
      · exact am_lin_c _
      · exact am_lin_r _ _ _ _
      · exact am_lin_c _
      · exact am_lin_hx hd pc ls e h1
  have hany : am_lin (fun rec jump => (if am_can (am_arg xs 2).toNat st = true then (match (am_arg xs 4).toNat with
    | 0 => (match (am_arg xs 3).toNat with
    | 0 => clV (call (am_arg xs 1).toNat (st.take (am_arg xs 2).toNat).reverse h) (am_hx hd jump pc ls) (fun h1 => rec rest ls (st.drop (am_arg xs 2).toNat) h1)
    | 1 => clI (call (am_arg xs 1).toNat (st.take (am_arg xs 2).toNat).reverse h) (am_hx hd jump pc ls) (fun v h1 => rec rest ls (Vi v :: st.drop (am_arg xs 2).toNat) h1)
    | _ => clP (call (am_arg xs 1).toNat (st.take (am_arg xs 2).toNat).reverse h) (am_hx hd jump pc ls) (fun v h1 => rec rest ls (Vr v :: st.drop (am_arg xs 2).toNat) h1) : am_R)
    | ci + 1 => match (st.take (am_arg xs 2).toNat).reverse with
      | v :: _ => am_rcv ci h v (match (am_arg xs 3).toNat with
    | 0 => clV (call (am_arg xs 1).toNat (st.take (am_arg xs 2).toNat).reverse h) (am_hx hd jump pc ls) (fun h1 => rec rest ls (st.drop (am_arg xs 2).toNat) h1)
    | 1 => clI (call (am_arg xs 1).toNat (st.take (am_arg xs 2).toNat).reverse h) (am_hx hd jump pc ls) (fun v h1 => rec rest ls (Vi v :: st.drop (am_arg xs 2).toNat) h1)
    | _ => clP (call (am_arg xs 1).toNat (st.take (am_arg xs 2).toNat).reverse h) (am_hx hd jump pc ls) (fun v h1 => rec rest ls (Vr v :: st.drop (am_arg xs 2).toNat) h1) : am_R)
      | [] => none) else none : am_R)) := by
    refine am_lin_ite ?_ (am_lin_c _)
    split
    · exact hgo
    · split
      · unfold am_rcv
        split
        · exact am_lin_ite hgo (am_lin_c _)
        · exact am_lin_c _
      · exact am_lin_c _
  have hmk : am_lin (fun rec jump => (if am_can (am_arg xs 2).toNat st = true then (match (am_arg xs 4).toNat with
    | 0 => none
    | ci + 1 => match (st.take (am_arg xs 2).toNat).reverse with
      | v :: _ => am_rcv ci h v (clV (call (am_arg xs 1).toNat (st.take (am_arg xs 2).toNat).reverse h) am_xn0 (fun h1 => rec rest ls (st.drop (am_arg xs 2).toNat) h1))
      | [] => none) else none : am_R)) := by
    refine am_lin_ite ?_ (am_lin_c _)
    split
    · exact am_lin_c _
    · split
      · unfold am_rcv
        split
        · refine am_lin_ite ?_ (am_lin_c _)
          generalize call (am_arg xs 1).toNat _ h = r
          rcases r with _ | ⟨v | e, h1⟩
          · exact am_lin_c _
          · exact am_lin_r _ _ _ _
          · exact am_lin_c _
        · exact am_lin_c _
      · exact am_lin_c _
  unfold am_inv
  dsimp only
  generalize (am_arg xs 0).toNat = k
  split
  · exact hany
  · exact hmk
  · exact hmk
  · split
    · exact am_lin_ite (am_lin_r _ _ _ _) (am_lin_c _)
    · exact am_lin_c _
  · split
    · unfold cpA
      split
      · exact am_lin_ite (am_lin_r _ _ _ _) (am_lin_c _)
      · exact am_lin_c _
    · exact am_lin_c _
  · split
    · unfold clA
      split
      · exact am_lin_ite (am_lin_r _ _ _ _) (am_lin_c _)
      · exact am_lin_c _
    · exact am_lin_c _
  · exact am_lin_c _
  · refine am_lin_ite ?_ (am_lin_c _)
    split
    · exact am_lin_ite hgo (am_lin_c _)
    · exact am_lin_c _
theorem am_lin_bin {st : List am_V} {K : Int → Int → List am_V → am_K → am_J → am_R} (hK : ∀ x y r, am_lin (K x y r)) : am_lin (fun rec jump => am_bin st (fun x y r => K x y r rec jump)) := by
  unfold am_bin
  split
  · exact hK _ _ _
  · exact am_lin_c _
theorem am_lin_un {st : List am_V} {K : Int → List am_V → am_K → am_J → am_R} (hK : ∀ x r, am_lin (K x r)) : am_lin (fun rec jump => am_un st (fun x r => K x r rec jump)) := by
  unfold am_un
  split
  · exact hK _ _
  · exact am_lin_c _
set_option maxHeartbeats 4000000 in
theorem am_lin_step (sfx : List am_E) (ls st : List am_V) (h : am_H) : am_lin (fun rec jump => am_step sc lt cd hd call jump rec sfx ls st h) := by
  rcases sfx with _ | ⟨⟨pc, len, I, xs⟩, rest⟩
  · exact am_lin_c _
  · cases I <;> simp only [am_step, am_load, am_loada, am_store, am_storea, ldA, ldB, ldP, stA, stB, stP, lenA, gfI, gfP, pfI, pfP, newA, newG, castA, retP]
    all_goals first
      | exact am_lin_c _
      | exact am_lin_r _ _ _ _
      | exact am_lin_to cd _ _ _ _ _
      | exact am_lin_inv hd call _ _ _ _ _ _
      | exact am_lin_bin fun _ _ _ => am_lin_r _ _ _ _
      | exact am_lin_bin fun _ _ _ => am_lin_ite (am_lin_c _) (am_lin_r _ _ _ _)
      | exact am_lin_un fun _ _ => am_lin_r _ _ _ _
      | exact am_lin_un fun _ _ => am_lin_if (am_lin_to cd _ _ _ _ _) (am_lin_r _ _ _ _)
      | exact am_lin_bin fun _ _ _ => am_lin_if (am_lin_to cd _ _ _ _ _) (am_lin_r _ _ _ _)
      | exact am_lin_un fun _ _ => am_lin_sw (fun _ => am_lin_to cd _ _ _ _ _) _ _ _
      | exact am_lin_un fun _ _ => am_lin_lk (fun _ => am_lin_to cd _ _ _ _ _) _ _
      | exact am_lin_un fun _ _ => am_lin_ite (am_lin_r _ _ _ _) (am_lin_c _)
      | exact am_lin_ite (am_lin_r _ _ _ _) (am_lin_r _ _ _ _)
      | exact am_lin_ite (am_lin_r _ _ _ _) (am_lin_ite (am_lin_c _) (am_lin_c _))
      | exact am_lin_ite (am_lin_r _ _ _ _) (am_lin_c _)
      | (repeat' split)
    all_goals first
      | exact am_lin_c _
      | exact am_lin_r _ _ _ _
      | exact am_lin_to cd _ _ _ _ _
      | exact am_lin_ite (am_lin_r _ _ _ _) (am_lin_c _)
      | exact am_lin_ite (am_lin_r _ _ _ _) (am_lin_to cd _ _ _ _ _)
end
