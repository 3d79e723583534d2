/-! THE START: the constructors don't ask the script. By gen/start.py. -/
def sz : Nat × (Nat → Int) := (0, fun _ => 0)
def tM (m : Nat) : Bool := [0, 21, 41, 51, 57, 72, 90, 101, 108, 130, 206].contains m
def tE (x : am_E) : Bool := match x with
  | (_, _, I, xs) => match I with
    | .arraylength => false
    | .invokevirtual _ => tM (am_arg xs 1).toNat
    | .invokespecial _ => tM (am_arg xs 1).toNat
    | .invokestatic _ => tM (am_arg xs 1).toNat
    | _ => true
theorem tE_all : ∀ m, tM m = true → ∀ x ∈ (am_at m).1, tE x = true := by
  have h : [0, 21, 41, 51, 57, 72, 90, 101, 108, 130, 206].all (fun m => (am_at m).1.all tE) = true := by decide +kernel
  intro m hm
  exact List.all_eq_true.mp (List.all_eq_true.mp h m (List.contains_iff_mem.mp hm))
theorem tr_no {i : Int} {x y : am_R} : Up9 (if 0 ≤ i ∧ i < (sz.1 : Int) then x else none) y := by
  have : ¬ (0 ≤ i ∧ i < (sz.1 : Int)) := fun h => by
    have h2 : i < ((0 : Nat) : Int) := h.2
    omega
  rw [if_neg this]
  exact up_none
section
variable {sc : Nat × (Nat → Int)} {lt : Nat → List Int} {cd : List am_E} {hd : List (Nat × Nat × Nat × Nat)} {call call' : am_C} {jump jump' : am_J} {rec rec' : am_K}
theorem tr_inv {pc : Nat} {xs : List Int} {rest : List am_E} {ls st : List am_V} {h : am_H} (hc : ∀ args h, Up9 (call (am_arg xs 1).toNat args h) (call' (am_arg xs 1).toNat args h)) (hj : ∀ i ls st h, Up9 (jump i ls st h) (jump' i ls st h)) (hr : ∀ l t h, Up9 (rec rest l t h) (rec' rest l t h)) : Up9 (am_inv hd call jump rec pc xs rest ls st h) (am_inv hd call' jump' rec' pc xs rest ls st h) := by
  have hx : ∀ e h, Up9 (am_hx hd jump pc ls e h) (am_hx hd jump' pc ls e h) := fun e h => up_hx hj e h
  have hgo : Up9 (match (am_arg xs 3).toNat with
    | 0 => clV (call (am_arg xs 1).toNat (st.take (am_arg xs 2).toNat).reverse h) (am_hx hd jump pc ls) (fun h1 => rec rest ls (st.drop (am_arg xs 2).toNat) h1)
    | 1 => clI (call (am_arg xs 1).toNat (st.take (am_arg xs 2).toNat).reverse h) (am_hx hd jump pc ls) (fun v h1 => rec rest ls (Vi v :: st.drop (am_arg xs 2).toNat) h1)
    | _ => clP (call (am_arg xs 1).toNat (st.take (am_arg xs 2).toNat).reverse h) (am_hx hd jump pc ls) (fun v h1 => rec rest ls (Vr v :: st.drop (am_arg xs 2).toNat) h1)) (match (am_arg xs 3).toNat with
    | 0 => clV (call' (am_arg xs 1).toNat (st.take (am_arg xs 2).toNat).reverse h) (am_hx hd jump' pc ls) (fun h1 => rec' rest ls (st.drop (am_arg xs 2).toNat) h1)
    | 1 => clI (call' (am_arg xs 1).toNat (st.take (am_arg xs 2).toNat).reverse h) (am_hx hd jump' pc ls) (fun v h1 => rec' rest ls (Vi v :: st.drop (am_arg xs 2).toNat) h1)
    | _ => clP (call' (am_arg xs 1).toNat (st.take (am_arg xs 2).toNat).reverse h) (am_hx hd jump' pc ls) (fun v h1 => rec' rest ls (Vr v :: st.drop (am_arg xs 2).toNat) h1)) := by
    split
    · exact up_clV (hc _ _) hx (fun h => hr _ _ _)
    · exact up_clI (hc _ _) hx (fun v h => hr _ _ _)
    · exact up_clP (hc _ _) hx (fun v h => hr _ _ _)
  unfold am_inv
  dsimp only
  generalize (am_arg xs 0).toNat = k
  split
  · refine up_ite (fun _ => ?_) (fun _ => up_none)
    split
    · exact hgo
    · split
      · exact up_rcv hgo
      · exact up_none
  · refine up_ite (fun _ => ?_) (fun _ => up_none)
    split
    · exact up_none
    · split
      · exact up_rcv (up_clV (hc _ _) (fun _ _ => up_rf) (fun h => hr _ _ _))
      · exact up_none
  · refine up_ite (fun _ => ?_) (fun _ => up_none)
    split
    · exact up_none
    · split
      · exact up_rcv (up_clV (hc _ _) (fun _ _ => up_rf) (fun h => hr _ _ _))
      · exact up_none
  · split
    · exact up_ite (fun _ => hr _ _ _) (fun _ => up_none)
    · exact up_none
  · split
    · exact up_cpA (fun h => hr _ _ _)
    · exact up_none
  · split
    · exact up_clA (fun p h => hr _ _ _)
    · exact up_none
  · exact up_none
  · refine up_ite (fun _ => ?_) (fun _ => up_none)
    split
    · exact up_ite (fun _ => hgo) (fun _ => up_none)
    · exact up_none
set_option maxHeartbeats 4000000 in
theorem tr_step (hcd : ∀ x ∈ cd, tE x = true) (hc : ∀ m args h, tM m = true → Up9 (call m args h) (call' m args h)) (hj : ∀ i ls st h, Up9 (jump i ls st h) (jump' i ls st h)) (hr : ∀ s l t h, (∀ x ∈ s, tE x = true) → Up9 (rec s l t h) (rec' s l t h)) {sfx : List am_E} (hs : ∀ x ∈ sfx, tE x = true) {ls st : List am_V} {h : am_H} : Up9 (am_step sz lt cd hd call jump rec sfx ls st h) (am_step sc lt cd hd call' jump' rec' sfx ls st h) := by
  rcases sfx with _ | ⟨⟨pc, len, I, xs⟩, rest⟩
  · exact up_none
  · have hok := hs _ (List.mem_cons_self ..)
    have hr1 : ∀ l t h, Up9 (rec rest l t h) (rec' rest l t h) := fun l t h => hr _ _ _ _ (fun x hx => hs x (List.mem_cons_of_mem _ hx))
    have ht : ∀ {i : Nat} {l t : List am_V} {h : am_H}, Up9 (am_to cd jump rec xs i l t h) (am_to cd jump' rec' xs i l t h) := fun {i l t h} => up_ite (fun _ => hr _ _ _ _ (fun x hx => hcd x (List.mem_of_mem_drop hx))) (fun _ => hj _ _ _ _)
    clear hs
    cases I <;> simp only [am_step, am_load, am_loada, am_store, am_storea, tE] at hok ⊢
    all_goals first
      | exact absurd hok Bool.false_ne_true
      | exact up_none
      | exact hr1 _ _ _
      | exact ht
      | exact tr_inv (fun args h => hc _ args h hok) hj hr1
      | exact up_bin fun _ _ _ => hr1 _ _ _
      | exact up_bin fun _ _ _ => up_ite (fun _ => up_none) (fun _ => hr1 _ _ _)
      | exact up_un fun _ _ => hr1 _ _ _
      | exact up_un fun _ _ => up_if (ht) (hr1 _ _ _)
      | exact up_bin fun _ _ _ => up_if (ht) (hr1 _ _ _)
      | exact up_un fun _ _ => up_sw (fun _ => ht) _ _ _
      | exact up_un fun _ _ => up_lk (fun _ => ht) _ _
      | exact up_un fun _ _ => up_newA (fun _ _ => hr1 _ _ _)
      | exact up_ite (fun _ => hr1 _ _ _) (fun _ => hr1 _ _ _)
      | exact up_ite (fun _ => hr1 _ _ _) (fun _ => up_rf)
      | skip
    all_goals (try split)
    all_goals first
      | exact up_none
      | exact hr1 _ _ _
      | exact ht
      | exact up_ite (fun _ => hr1 _ _ _) (fun _ => up_none)
      | exact up_ite (fun _ => hr1 _ _ _) (fun _ => ht)
      | exact up_ldA fun _ => hr1 _ _ _
      | exact up_ldB fun _ => hr1 _ _ _
      | exact up_ldP fun _ => hr1 _ _ _
      | exact up_lenA fun _ => hr1 _ _ _
      | exact up_gfI fun _ => hr1 _ _ _
      | exact up_gfP fun _ => hr1 _ _ _
      | exact up_stA fun _ => hr1 _ _ _
      | exact up_stB fun _ => hr1 _ _ _
      | exact up_stP fun _ => hr1 _ _ _
      | exact up_pfI fun _ => hr1 _ _ _
      | exact up_pfP fun _ => hr1 _ _ _
      | exact up_newG fun _ _ => hr1 _ _ _
      | exact up_castA (hr1 _ _ _)
      | exact tr_no
      | exact up_rf
theorem tr_go (hcd : ∀ x ∈ cd, tE x = true) (hc : ∀ m args h, tM m = true → Up9 (call m args h) (call' m args h)) (hj : ∀ i ls st h, Up9 (jump i ls st h) (jump' i ls st h)) : ∀ (f : Nat) (s : List am_E) (l t : List am_V) (h : am_H), (∀ x ∈ s, tE x = true) → Up9 (am_go sz lt cd hd call jump f s l t h) (am_go sc lt cd hd call' jump' f s l t h)
  | 0, _, _, _, _, _ => up_none
  | f + 1, _, _, _, _, hs => tr_step hcd hc hj (fun s l t h hs => tr_go hcd hc hj f s l t h hs) hs
theorem tr_lp (hc : ∀ m args h, tM m = true → Up9 (call m args h) (call' m args h)) {m : Nat} (hm : tM m = true) : ∀ (n i : Nat) (ls st : List am_V) (h : am_H), Up9 (am_lp sz call m n i ls st h) (am_lp sc call' m n i ls st h)
  | 0, _, _, _, _ => up_none
  | n + 1, _, _, _, _ => tr_go (tE_all m hm) hc (fun i ls st h => tr_lp hc hm n i ls st h) _ _ _ _ _ (fun x hx => tE_all m hm x (List.mem_of_mem_drop hx))
/-- a run that counts its ways back -/
noncomputable def fR (n : Nat) : Nat → am_C
  | 0 => fun _ _ _ => none
  | d + 1 => fun m args h => if Nat.ble args.length (am_at m).2.2 = true then am_lp sz (fR n d) m n 0 (am_pad (am_at m).2.2 args) [] h else none
theorem tr_Cl {n : Nat} : ∀ (d m : Nat) (args : List am_V) (h : am_H), tM m = true → Up9 (fR n d m args h) (Cl sc d m args h)
  | 0, _, _, _, _ => up_none
  | d + 1, m, args, h, hm => by
    show Up9 (if Nat.ble args.length (am_at m).2.2 = true then am_lp sz (fR n d) m n 0 (am_pad (am_at m).2.2 args) [] h else none) (if Nat.ble args.length (am_at m).2.2 = true then Ru sc (d + 1) m 0 (am_pad (am_at m).2.2 args) [] h else none)
    refine up_ite (fun _ => ?_) (fun _ => up_none)
    intro y e
    have h2 : am_lp sc (Cl sc d) m n 0 (am_pad (am_at m).2.2 args) [] h = some y := tr_lp (fun m1 args h1 hm1 => tr_Cl d m1 args h1 hm1) hm n _ _ _ _ y e
    exact am_lim_of (N := n) (fun k hk => am_lp_le sc _ m hk h2)
end
