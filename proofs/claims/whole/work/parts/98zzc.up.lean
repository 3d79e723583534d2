/-! THE WALK ONCE MORE: a run that ends ends so with more room too -/
def Up9 (r r' : am_R) : Prop := ∀ y, r = some y → r' = some y
theorem up_rf {r : am_R} : Up9 r r := fun _ e => e
theorem up_none {r : am_R} : Up9 none r := fun _ e => by cases e
theorem up_ite {P : Prop} [Decidable P] {x y x' y' : am_R} (h1 : P → Up9 x x') (h2 : ¬ P → Up9 y y') : Up9 (if P then x else y) (if P then x' else y') := by
  by_cases h : P
  · rw [if_pos h, if_pos h]
    exact h1 h
  · rw [if_neg h, if_neg h]
    exact h2 h
section
variable {h : am_H} {t n : Nat} {i v : Int} {r q : Option Nat}
theorem up_ldA {k k' : Int → am_R} (hk : ∀ v, Up9 (k v) (k' v)) : Up9 (ldA t h r i k) (ldA t h r i k') := by
  unfold ldA
  split
  · exact up_ite (fun _ => hk _) (fun _ => up_none)
  · exact up_none
theorem up_ldB {k k' : Int → am_R} (hk : ∀ v, Up9 (k v) (k' v)) : Up9 (ldB h r i k) (ldB h r i k') := by
  unfold ldB
  split
  · exact up_ite (fun _ => hk _) (fun _ => up_none)
  · exact up_none
theorem up_ldP {k k' : Option Nat → am_R} (hk : ∀ v, Up9 (k v) (k' v)) : Up9 (ldP t h r i k) (ldP t h r i k') := by
  unfold ldP
  split
  · exact up_ite (fun _ => hk _) (fun _ => up_none)
  · exact up_none
theorem up_lenA {k k' : Int → am_R} (hk : ∀ v, Up9 (k v) (k' v)) : Up9 (lenA h r k) (lenA h r k') := by
  unfold lenA
  split
  · exact up_ite (fun _ => hk _) (fun _ => up_none)
  · exact up_none
theorem up_gfI {ci j : Nat} {k k' : Int → am_R} (hk : ∀ v, Up9 (k v) (k' v)) : Up9 (gfI ci j h r k) (gfI ci j h r k') := by
  unfold gfI
  split
  · exact up_ite (fun _ => hk _) (fun _ => up_none)
  · exact up_none
theorem up_gfP {ci j : Nat} {k k' : Option Nat → am_R} (hk : ∀ v, Up9 (k v) (k' v)) : Up9 (gfP ci j h r k) (gfP ci j h r k') := by
  unfold gfP
  split
  · exact up_ite (fun _ => hk _) (fun _ => up_none)
  · exact up_none
theorem up_stA {k k' : am_H → am_R} (hk : ∀ h1, Up9 (k h1) (k' h1)) : Up9 (stA t h r i v k) (stA t h r i v k') := by
  unfold stA
  split
  · exact up_ite (fun e => hk _) (fun _ => up_none)
  · exact up_none
theorem up_stB {k k' : am_H → am_R} (hk : ∀ h1, Up9 (k h1) (k' h1)) : Up9 (stB h r i v k) (stB h r i v k') := by
  unfold stB
  split
  · exact up_ite (fun e => hk _) (fun _ => up_none)
  · exact up_none
theorem up_stP {ci : Nat} {k k' : am_H → am_R} (hk : ∀ h1, Up9 (k h1) (k' h1)) : Up9 (stP ci h r i q k) (stP ci h r i q k') := by
  unfold stP
  split
  · exact up_ite (fun e => hk _) (fun _ => up_none)
  · exact up_none
theorem up_pfI {ci j : Nat} {k k' : am_H → am_R} (hk : ∀ h1, Up9 (k h1) (k' h1)) : Up9 (pfI t ci j h r v k) (pfI t ci j h r v k') := by
  unfold pfI
  split
  · exact up_ite (fun e => hk _) (fun _ => up_none)
  · exact up_none
theorem up_pfP {ci j : Nat} {k k' : am_H → am_R} (hk : ∀ h1, Up9 (k h1) (k' h1)) : Up9 (pfP ci j h r q k) (pfP ci j h r q k') := by
  unfold pfP
  split
  · exact up_ite (fun e => hk _) (fun _ => up_none)
  · exact up_none
theorem up_newA {k k' : Option Nat → am_H → am_R} (hk : ∀ p h1, Up9 (k p h1) (k' p h1)) : Up9 (newA t h i k) (newA t h i k') := up_ite (fun _ => hk _ _) (fun _ => up_none)
theorem up_newG {k k' : Option Nat → am_H → am_R} (hk : ∀ p h1, Up9 (k p h1) (k' p h1)) : Up9 (newG h i v k) (newG h i v k') := up_ite (fun _ => hk _ _) (fun _ => up_none)
theorem up_cpA {dp n : Int} {k k' : am_H → am_R} (hk : ∀ h1, Up9 (k h1) (k' h1)) : Up9 (cpA h r i q dp n k) (cpA h r i q dp n k') := by
  unfold cpA
  split
  · exact up_ite (fun e => hk _) (fun _ => up_none)
  · exact up_none
theorem up_clA {k k' : Option Nat → am_H → am_R} (hk : ∀ p h1, Up9 (k p h1) (k' p h1)) : Up9 (clA h r k) (clA h r k') := by
  unfold clA
  split
  · exact up_ite (fun e => hk _ _) (fun _ => up_none)
  · exact up_none
theorem up_castA {k k' : am_R} (hk : Up9 k k') : Up9 (castA h r k) (castA h r k') := by
  unfold castA
  split
  · exact up_ite (fun e => hk) (fun _ => up_none)
  · exact up_none
theorem up_clI {z z' : am_R} {x x' : Nat → am_H → am_R} {k k' : Int → am_H → am_R} (hz : Up9 z z') (hx : ∀ e h, Up9 (x e h) (x' e h)) (hk : ∀ v h, Up9 (k v h) (k' v h)) : Up9 (clI z x k) (clI z' x' k') := by
  rcases z with _ | y
  · exact up_none
  · rw [hz y rfl]
    unfold clI
    split
    · exact hk _ _
    · exact hx _ _
    · exact up_none
theorem up_clP {z z' : am_R} {x x' : Nat → am_H → am_R} {k k' : Option Nat → am_H → am_R} (hz : Up9 z z') (hx : ∀ e h, Up9 (x e h) (x' e h)) (hk : ∀ v h, Up9 (k v h) (k' v h)) : Up9 (clP z x k) (clP z' x' k') := by
  rcases z with _ | y
  · exact up_none
  · rw [hz y rfl]
    unfold clP
    split
    · exact hk _ _
    · exact hx _ _
    · exact up_none
theorem up_clV {z z' : am_R} {x x' : Nat → am_H → am_R} {k k' : am_H → am_R} (hz : Up9 z z') (hx : ∀ e h, Up9 (x e h) (x' e h)) (hk : ∀ h, Up9 (k h) (k' h)) : Up9 (clV z x k) (clV z' x' k') := by
  rcases z with _ | y
  · exact up_none
  · rw [hz y rfl]
    unfold clV
    split
    · exact hk _
    · exact hx _ _
    · exact up_none
theorem up_rcv {ci : Nat} {w : am_V} {k k' : am_R} (hk : Up9 k k') : Up9 (am_rcv ci h w k) (am_rcv ci h w k') := by
  unfold am_rcv
  split
  · exact up_ite (fun _ => hk) (fun _ => up_none)
  · exact up_none
theorem up_if {c : ClassFile.Cond} {x y : Int} {u w u' w' : am_R} (hu : Up9 u u') (hw : Up9 w w') : Up9 (am_if c x y u w) (am_if c x y u' w') := by
  cases c <;> exact up_ite (fun _ => by assumption) (fun _ => by assumption)
theorem up_sw {x : Int} {J J' : Nat → am_R} (hJ : ∀ j, Up9 (J j) (J' j)) : ∀ (n : Nat) (v : Int) (j : Nat), Up9 (am_sw x J v n j) (am_sw x J' v n j)
  | 0, _, _ => hJ 0
  | n + 1, v, j => up_ite (fun _ => hJ j) (fun _ => up_sw hJ n (v + 1) (j + 1))
theorem up_lk {x : Int} {J J' : Nat → am_R} (hJ : ∀ j, Up9 (J j) (J' j)) : ∀ (l : List (Int × Int)) (j : Nat), Up9 (am_lk x J l j) (am_lk x J' l j)
  | [], _ => hJ 0
  | _ :: l, j => up_ite (fun _ => hJ j) (fun _ => up_lk hJ l (j + 1))
theorem up_bin {st : List am_V} {K K' : Int → Int → List am_V → am_R} (hK : ∀ x y r, Up9 (K x y r) (K' x y r)) : Up9 (am_bin st K) (am_bin st K') := by
  unfold am_bin
  split
  · exact hK _ _ _
  · exact up_none
theorem up_un {st : List am_V} {K K' : Int → List am_V → am_R} (hK : ∀ x r, Up9 (K x r) (K' x r)) : Up9 (am_un st K) (am_un st K') := by
  unfold am_un
  split
  · exact hK _ _
  · exact up_none
end
section
variable {sc : Nat × (Nat → Int)} {lt : Nat → List Int} {cd : List am_E} {hd : List (Nat × Nat × Nat × Nat)} {call call' : am_C} {jump jump' : am_J} {rec rec' : am_K}
theorem up_to (hj : ∀ i ls st h, Up9 (jump i ls st h) (jump' i ls st h)) (hr : ∀ s l t h, Up9 (rec s l t h) (rec' s l t h)) {xs : List Int} {i : Nat} {ls st : List am_V} {h : am_H} : Up9 (am_to cd jump rec xs i ls st h) (am_to cd jump' rec' xs i ls st h) := up_ite (fun _ => hr _ _ _ _) (fun _ => hj _ _ _ _)
theorem up_hx (hj : ∀ i ls st h, Up9 (jump i ls st h) (jump' i ls st h)) {pc : Nat} {ls : List am_V} (e : Nat) (h : am_H) : Up9 (am_hx hd jump pc ls e h) (am_hx hd jump' pc ls e h) := by
  unfold am_hx
  split
  · exact up_rf
  · exact hj _ _ _ _
theorem up_inv (hc : ∀ m args h, Up9 (call m args h) (call' m args h)) (hj : ∀ i ls st h, Up9 (jump i ls st h) (jump' i ls st h)) (hr : ∀ s l t h, Up9 (rec s l t h) (rec' s l t h)) {pc : Nat} {xs : List Int} {rest : List am_E} {ls st : List am_V} {h : am_H} : Up9 (am_inv hd call jump rec pc xs rest ls st h) (am_inv hd call' jump' rec' pc xs rest ls st h) := by
  have hx : ∀ e h, Up9 (am_hx hd jump pc ls e h) (am_hx hd jump' pc ls e h) := fun e h => up_hx hj e h
  have hgo : Up9 (match (am_arg xs 3).toNat with
    | 0 => clV (call (am_arg xs 1).toNat (st.take (am_arg xs 2).toNat).reverse h) (am_hx hd jump pc ls) (fun h1 => rec rest ls (st.drop (am_arg xs 2).toNat) h1)
    | 1 => clI (call (am_arg xs 1).toNat (st.take (am_arg xs 2).toNat).reverse h) (am_hx hd jump pc ls) (fun v h1 => rec rest ls (Vi v :: st.drop (am_arg xs 2).toNat) h1)
    | _ => clP (call (am_arg xs 1).toNat (st.take (am_arg xs 2).toNat).reverse h) (am_hx hd jump pc ls) (fun v h1 => rec rest ls (Vr v :: st.drop (am_arg xs 2).toNat) h1)) (match (am_arg xs 3).toNat with
    | 0 => clV (call' (am_arg xs 1).toNat (st.take (am_arg xs 2).toNat).reverse h) (am_hx hd jump' pc ls) (fun h1 => rec' rest ls (st.drop (am_arg xs 2).toNat) h1)
    | 1 => clI (call' (am_arg xs 1).toNat (st.take (am_arg xs 2).toNat).reverse h) (am_hx hd jump' pc ls) (fun v h1 => rec' rest ls (Vi v :: st.drop (am_arg xs 2).toNat) h1)
    | _ => clP (call' (am_arg xs 1).toNat (st.take (am_arg xs 2).toNat).reverse h) (am_hx hd jump' pc ls) (fun v h1 => rec' rest ls (Vr v :: st.drop (am_arg xs 2).toNat) h1)) := by
    split
    · exact up_clV (hc _ _ _) hx (fun h => hr _ _ _ _)
    · exact up_clI (hc _ _ _) hx (fun v h => hr _ _ _ _)
    · exact up_clP (hc _ _ _) hx (fun v h => hr _ _ _ _)
  unfold am_inv
  dsimp only
  generalize (am_arg xs 0).toNat = k
  split
  · refine up_ite (fun _ => ?_) (fun _ => up_none)
    split
    · exact hgo
    · split
      · exact up_rcv hgo
      · exact up_none
  · refine up_ite (fun _ => ?_) (fun _ => up_none)
    split
    · exact up_none
    · split
      · exact up_rcv (up_clV (hc _ _ _) (fun _ _ => up_rf) (fun h => hr _ _ _ _))
      · exact up_none
  · refine up_ite (fun _ => ?_) (fun _ => up_none)
    split
    · exact up_none
    · split
      · exact up_rcv (up_clV (hc _ _ _) (fun _ _ => up_rf) (fun h => hr _ _ _ _))
      · exact up_none
  · split
    · exact up_ite (fun _ => hr _ _ _ _) (fun _ => up_none)
    · exact up_none
  · split
    · exact up_cpA (fun h => hr _ _ _ _)
    · exact up_none
  · split
    · exact up_clA (fun p h => hr _ _ _ _)
    · exact up_none
  · exact up_none
  · refine up_ite (fun _ => ?_) (fun _ => up_none)
    split
    · exact up_ite (fun _ => hgo) (fun _ => up_none)
    · exact up_none
set_option maxHeartbeats 4000000 in
theorem up_step (hc : ∀ m args h, Up9 (call m args h) (call' m args h)) (hj : ∀ i ls st h, Up9 (jump i ls st h) (jump' i ls st h)) (hr : ∀ s l t h, Up9 (rec s l t h) (rec' s l t h)) {sfx : List am_E} {ls st : List am_V} {h : am_H} : Up9 (am_step sc lt cd hd call jump rec sfx ls st h) (am_step sc lt cd hd call' jump' rec' sfx ls st h) := by
  rcases sfx with _ | ⟨⟨pc, len, I, xs⟩, rest⟩
  · exact up_none
  · cases I <;> simp only [am_step, am_load, am_loada, am_store, am_storea]
    all_goals first
      | exact up_none
      | exact hr _ _ _ _
      | exact up_to hj hr
      | exact up_inv hc hj hr
      | exact up_bin fun _ _ _ => hr _ _ _ _
      | exact up_bin fun _ _ _ => up_ite (fun _ => up_none) (fun _ => hr _ _ _ _)
      | exact up_un fun _ _ => hr _ _ _ _
      | exact up_un fun _ _ => up_if (up_to hj hr) (hr _ _ _ _)
      | exact up_bin fun _ _ _ => up_if (up_to hj hr) (hr _ _ _ _)
      | exact up_un fun _ _ => up_sw (fun _ => up_to hj hr) _ _ _
      | exact up_un fun _ _ => up_lk (fun _ => up_to hj hr) _ _
      | exact up_un fun _ _ => up_newA (fun _ _ => hr _ _ _ _)
      | exact up_ite (fun _ => hr _ _ _ _) (fun _ => hr _ _ _ _)
      | exact up_ite (fun _ => hr _ _ _ _) (fun _ => up_rf)
      | skip
    all_goals (try split)
    all_goals first
      | exact up_none
      | exact hr _ _ _ _
      | exact up_to hj hr
      | exact up_ite (fun _ => hr _ _ _ _) (fun _ => up_none)
      | exact up_ite (fun _ => hr _ _ _ _) (fun _ => up_to hj hr)
      | exact up_ldA fun _ => hr _ _ _ _
      | exact up_ldB fun _ => hr _ _ _ _
      | exact up_ldP fun _ => hr _ _ _ _
      | exact up_lenA fun _ => hr _ _ _ _
      | exact up_gfI fun _ => hr _ _ _ _
      | exact up_gfP fun _ => hr _ _ _ _
      | exact up_stA fun _ => hr _ _ _ _
      | exact up_stB fun _ => hr _ _ _ _
      | exact up_stP fun _ => hr _ _ _ _
      | exact up_pfI fun _ => hr _ _ _ _
      | exact up_pfP fun _ => hr _ _ _ _
      | exact up_newG fun _ _ => hr _ _ _ _
      | exact up_castA (hr _ _ _ _)
      | exact up_rf
theorem up_go (hc : ∀ m args h, Up9 (call m args h) (call' m args h)) (hj : ∀ i ls st h, Up9 (jump i ls st h) (jump' i ls st h)) : ∀ (f : Nat) (s : List am_E) (l t : List am_V) (h : am_H), Up9 (am_go sc lt cd hd call jump f s l t h) (am_go sc lt cd hd call' jump' f s l t h)
  | 0, _, _, _, _ => up_none
  | f + 1, _, _, _, _ => up_step hc hj (fun s l t h => up_go hc hj f s l t h)
theorem up_lp (hc : ∀ m args h, Up9 (call m args h) (call' m args h)) (m : Nat) : ∀ (n i : Nat) (ls st : List am_V) (h : am_H), Up9 (am_lp sc call m n i ls st h) (am_lp sc call' m n i ls st h)
  | 0, _, _, _, _ => up_none
  | n + 1, _, _, _, _ => up_go hc (fun i ls st h => up_lp hc m n i ls st h) _ _ _ _ _
theorem up_Ru : ∀ (d m i : Nat) (ls st : List am_V) (h : am_H), Up9 (Ru sc d m i ls st h) (Ru sc (d + 1) m i ls st h)
  | 0, _, _, _, _, _ => up_none
  | d + 1, m, i, ls, st, h => by
    intro y e
    obtain ⟨n, hn⟩ := am_lim_some sc _ e
    have h2 := up_lp (call' := fun m1 args h1 => if Nat.ble args.length (am_at m1).2.2 = true then Ru sc (d + 1) m1 0 (am_pad (am_at m1).2.2 args) [] h1 else none) (fun m1 args h1 => up_ite (fun _ => up_Ru d m1 0 (am_pad (am_at m1).2.2 args) [] h1) (fun _ => up_rf)) m n i ls st h y hn
    exact am_lim_of (N := n) (fun k hk => am_lp_le sc _ m hk h2)
theorem up_Cl {d m : Nat} {args : List am_V} {h : am_H} : Up9 (Cl sc d m args h) (Cl sc (d + 1) m args h) := up_ite (fun _ => up_Ru d m 0 _ [] h) (fun _ => up_none)
end
