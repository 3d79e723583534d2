/-! BOOLEANS ARE BOOLEANS, whatever runs -/
def BBh (h : am_H) : Prop := ∀ a i, (hT h a).1 = 2 → rI h a i = 0 ∨ rI h a i = 1
def BR9 (r : am_R) : Prop := ∀ x h, r = some (x, h) → BBh h
theorem bb_none : BR9 none := fun _ _ e => by cases e
theorem bb_some {x : am_V ⊕ Nat} {h : am_H} (b : BBh h) : BR9 (some (x, h)) := fun y g e => by
  cases e
  exact b
theorem bb_ite {P : Prop} [Decidable P] {x y : am_R} (h1 : P → BR9 x) (h2 : ¬ P → BR9 y) : BR9 (if P then x else y) := by
  by_cases h : P
  · rw [if_pos h]
    exact h1 h
  · rw [if_neg h]
    exact h2 h
section
variable {h : am_H} {a t n : Nat} {i v : Int} {r q : Option Nat}
theorem bb_wI {j : Nat} (b : BBh h) (ht : (hT h a).1 = 2 → v = 0 ∨ v = 1) : BBh (wI h a j v) := by
  intro c k hc
  show am_u2 h.2.2.2.2.1 a j v c k = 0 ∨ am_u2 h.2.2.2.2.1 a j v c k = 1
  unfold am_u2
  by_cases e : c = a ∧ k = j
  · rw [if_pos e]
    refine ht ?_
    rw [← e.1]
    exact hc
  · rw [if_neg e]
    exact b c k hc
theorem bb_wP {j : Nat} (b : BBh h) : BBh (wP h a j r) := b
theorem bb_ex (b : BBh h) : BBh (am_ex h) := b
theorem bb_new {k : Nat} (b : BBh h) : BBh (am_new h t n k) := by
  intro c j hc
  have e1 : rI (am_new h t n k) c j = am_u1 h.2.2.2.2.1 h.2.2.1 (fun _ => 0) c j := rfl
  have e2 : hT (am_new h t n k) c = am_u1 h.2.2.2.1 h.2.2.1 (t, n) c := rfl
  rw [e1]
  rw [e2] at hc
  unfold am_u1 at hc ⊢
  by_cases e : c = h.2.2.1
  · rw [if_pos e]
    exact Or.inl rfl
  · rw [if_neg e] at hc ⊢
    exact b c j hc
theorem bb_cln (b : BBh h) (ht : (hT h a).1 = 1) : BBh (am_cln h a) := by
  intro c j hc
  have e1 : rI (am_cln h a) c j = am_u1 h.2.2.2.2.1 h.2.2.1 (h.2.2.2.2.1 a) c j := rfl
  have e2 : hT (am_cln h a) c = am_u1 h.2.2.2.1 h.2.2.1 (hT h a) c := rfl
  rw [e1]
  rw [e2] at hc
  unfold am_u1 at hc ⊢
  by_cases e : c = h.2.2.1
  · rw [if_pos e] at hc
    omega
  · rw [if_neg e] at hc ⊢
    exact b c j hc
theorem bb_cp {sp b dp : Nat} (bb : BBh h) (ht : (hT h b).1 = 1) : BBh (cpI h a sp b dp n) := by
  intro c j hc
  have e1 : rI (cpI h a sp b dp n) c j = am_cpf h.2.2.2.2.1 a sp b dp n c j := rfl
  have e2 : hT (cpI h a sp b dp n) c = hT h c := rfl
  rw [e1]
  rw [e2] at hc
  unfold am_cpf
  by_cases e : c = b ∧ dp ≤ j ∧ j < dp + n
  · rw [e.1] at hc
    omega
  · rw [if_neg e]
    exact bb c j hc
theorem bb_ldA {k : Int → am_R} (hk : ∀ v, BR9 (k v)) : BR9 (ldA t h r i k) := by
  unfold ldA
  split
  · exact bb_ite (fun _ => hk _) (fun _ => bb_none)
  · exact bb_none
theorem bb_ldB {k : Int → am_R} (hk : ∀ v, BR9 (k v)) : BR9 (ldB h r i k) := by
  unfold ldB
  split
  · exact bb_ite (fun _ => hk _) (fun _ => bb_none)
  · exact bb_none
theorem bb_ldP {k : Option Nat → am_R} (hk : ∀ v, BR9 (k v)) : BR9 (ldP t h r i k) := by
  unfold ldP
  split
  · exact bb_ite (fun _ => hk _) (fun _ => bb_none)
  · exact bb_none
theorem bb_lenA {k : Int → am_R} (hk : ∀ v, BR9 (k v)) : BR9 (lenA h r k) := by
  unfold lenA
  split
  · exact bb_ite (fun _ => hk _) (fun _ => bb_none)
  · exact bb_none
theorem bb_gfI {ci j : Nat} {k : Int → am_R} (hk : ∀ v, BR9 (k v)) : BR9 (gfI ci j h r k) := by
  unfold gfI
  split
  · exact bb_ite (fun _ => hk _) (fun _ => bb_none)
  · exact bb_none
theorem bb_gfP {ci j : Nat} {k : Option Nat → am_R} (hk : ∀ v, BR9 (k v)) : BR9 (gfP ci j h r k) := by
  unfold gfP
  split
  · exact bb_ite (fun _ => hk _) (fun _ => bb_none)
  · exact bb_none
theorem bb_stA {k : am_H → am_R} (ht : t ≠ 2) (b : BBh h) (hk : ∀ h1, BBh h1 → BR9 (k h1)) : BR9 (stA t h r i v k) := by
  unfold stA
  split
  · exact bb_ite (fun e => hk _ (bb_wI b (fun z => by omega))) (fun _ => bb_none)
  · exact bb_none
theorem bb_stB {k : am_H → am_R} (b : BBh h) (hk : ∀ h1, BBh h1 → BR9 (k h1)) : BR9 (stB h r i v k) := by
  unfold stB
  split
  · exact bb_ite (fun e => hk _ (bb_wI b (fun z => by omega))) (fun _ => bb_none)
  · exact bb_none
theorem bb_stP {ci : Nat} {k : am_H → am_R} (b : BBh h) (hk : ∀ h1, BBh h1 → BR9 (k h1)) : BR9 (stP ci h r i q k) := by
  unfold stP
  split
  · exact bb_ite (fun e => hk _ (bb_wP b)) (fun _ => bb_none)
  · exact bb_none
theorem bb_pfI {ci j : Nat} {k : am_H → am_R} (b : BBh h) (hk : ∀ h1, BBh h1 → BR9 (k h1)) : BR9 (pfI t ci j h r v k) := by
  unfold pfI
  split
  · exact bb_ite (fun e => hk _ (bb_wI b (fun z => by rw [e.1] at z; cases z))) (fun _ => bb_none)
  · exact bb_none
theorem bb_pfP {ci j : Nat} {k : am_H → am_R} (b : BBh h) (hk : ∀ h1, BBh h1 → BR9 (k h1)) : BR9 (pfP ci j h r q k) := by
  unfold pfP
  split
  · exact bb_ite (fun e => hk _ (bb_wP b)) (fun _ => bb_none)
  · exact bb_none
theorem bb_newA {k : Option Nat → am_H → am_R} (b : BBh h) (hk : ∀ p h1, BBh h1 → BR9 (k p h1)) : BR9 (newA t h i k) := bb_ite (fun _ => hk _ _ (bb_new b)) (fun _ => bb_none)
theorem bb_newG {k : Option Nat → am_H → am_R} (b : BBh h) (hk : ∀ p h1, BBh h1 → BR9 (k p h1)) : BR9 (newG h i v k) := by
  refine bb_ite (fun _ => hk _ _ ?_) (fun _ => bb_none)
  generalize i.toNat = n1
  generalize v.toNat = n2
  intro c j hc
  have e1 : hT (am_grid h n1 n2) c = if c = h.2.2.1 then (6, n1) else if h.2.2.1 < c ∧ c < h.2.2.1 + (1 + n1) then (1, n2) else h.2.2.2.1 c := rfl
  have e2 : rI (am_grid h n1 n2) c = (am_grid h n1 n2).2.2.2.2.1 c := rfl
  rw [e1] at hc
  by_cases z1 : c = h.2.2.1
  · rw [if_pos z1] at hc
    cases hc
  · rw [if_neg z1] at hc
    by_cases z2 : h.2.2.1 < c ∧ c < h.2.2.1 + (1 + n1)
    · rw [if_pos z2] at hc
      cases hc
    · rw [if_neg z2] at hc
      have : rI (am_grid h n1 n2) c j = rI h c j := by
        unfold am_grid rI
        dsimp only
        rw [if_neg (by omega)]
      rw [this]
      exact b c j hc
theorem bb_cpA {dp n : Int} {k : am_H → am_R} (b : BBh h) (hk : ∀ h1, BBh h1 → BR9 (k h1)) : BR9 (cpA h r i q dp n k) := by
  unfold cpA
  split
  · exact bb_ite (fun e => hk _ (bb_cp b e.2.1)) (fun _ => bb_none)
  · exact bb_none
theorem bb_clA {k : Option Nat → am_H → am_R} (b : BBh h) (hk : ∀ p h1, BBh h1 → BR9 (k p h1)) : BR9 (clA h r k) := by
  unfold clA
  split
  · exact bb_ite (fun e => hk _ _ (bb_cln b e)) (fun _ => bb_none)
  · exact bb_none
theorem bb_castA {k : am_R} (hk : BR9 k) : BR9 (castA h r k) := by
  unfold castA
  split
  · exact bb_ite (fun e => hk) (fun _ => bb_none)
  · exact bb_none
theorem bb_retP (b : BBh h) : BR9 (retP h r) := by
  unfold retP
  split
  · exact bb_some b
  · exact bb_none
theorem bb_ret (b : BBh h) : BR9 (am_ret i v h) := by
  unfold am_ret
  repeat' split
  all_goals first | exact bb_none | exact bb_some b
theorem bb_clI {z : am_R} {x : Nat → am_H → am_R} {k : Int → am_H → am_R} (hz : BR9 z) (hx : ∀ e h, BBh h → BR9 (x e h)) (hk : ∀ v h, BBh h → BR9 (k v h)) : BR9 (clI z x k) := by
  unfold clI
  split
  · exact hk _ _ (hz _ _ rfl)
  · exact hx _ _ (hz _ _ rfl)
  · exact bb_none
theorem bb_clP {z : am_R} {x : Nat → am_H → am_R} {k : Option Nat → am_H → am_R} (hz : BR9 z) (hx : ∀ e h, BBh h → BR9 (x e h)) (hk : ∀ v h, BBh h → BR9 (k v h)) : BR9 (clP z x k) := by
  unfold clP
  split
  · exact hk _ _ (hz _ _ rfl)
  · exact hx _ _ (hz _ _ rfl)
  · exact bb_none
theorem bb_clV {z : am_R} {x : Nat → am_H → am_R} {k : am_H → am_R} (hz : BR9 z) (hx : ∀ e h, BBh h → BR9 (x e h)) (hk : ∀ h, BBh h → BR9 (k h)) : BR9 (clV z x k) := by
  unfold clV
  split
  · exact hk _ (hz _ _ rfl)
  · exact hx _ _ (hz _ _ rfl)
  · exact bb_none
theorem bb_rcv {ci : Nat} {w : am_V} {k : am_R} (hk : BR9 k) : BR9 (am_rcv ci h w k) := by
  unfold am_rcv
  split
  · exact bb_ite (fun _ => hk) (fun _ => bb_none)
  · exact bb_none
theorem bb_if {c : ClassFile.Cond} {x y : Int} {u w : am_R} (hu : BR9 u) (hw : BR9 w) : BR9 (am_if c x y u w) := by
  cases c <;> exact bb_ite (fun _ => by assumption) (fun _ => by assumption)
theorem bb_sw {x : Int} {J : Nat → am_R} (hJ : ∀ j, BR9 (J j)) : ∀ (n : Nat) (v : Int) (j : Nat), BR9 (am_sw x J v n j)
  | 0, _, _ => hJ 0
  | n + 1, v, j => bb_ite (fun _ => hJ j) (fun _ => bb_sw hJ n (v + 1) (j + 1))
theorem bb_lk {x : Int} {J : Nat → am_R} (hJ : ∀ j, BR9 (J j)) : ∀ (l : List (Int × Int)) (j : Nat), BR9 (am_lk x J l j)
  | [], _ => hJ 0
  | _ :: l, j => bb_ite (fun _ => hJ j) (fun _ => bb_lk hJ l (j + 1))
theorem bb_bin {st : List am_V} {K : Int → Int → List am_V → am_R} (hK : ∀ x y r, BR9 (K x y r)) : BR9 (am_bin st K) := by
  unfold am_bin
  split
  · exact hK _ _ _
  · exact bb_none
theorem bb_un {st : List am_V} {K : Int → List am_V → am_R} (hK : ∀ x r, BR9 (K x r)) : BR9 (am_un st K) := by
  unfold am_un
  split
  · exact hK _ _
  · exact bb_none
end
section
variable {sc : Nat × (Nat → Int)} {lt : Nat → List Int} {cd : List am_E} {hd : List (Nat × Nat × Nat × Nat)} {call : am_C} {jump : am_J} {rec : am_K}
theorem bb_to (hj : ∀ i ls st h, BBh h → BR9 (jump i ls st h)) (hr : ∀ s l t h, BBh h → BR9 (rec s l t h)) {xs : List Int} {i : Nat} {ls st : List am_V} {h : am_H} (b : BBh h) : BR9 (am_to cd jump rec xs i ls st h) := bb_ite (fun _ => hr _ _ _ _ b) (fun _ => hj _ _ _ _ b)
theorem bb_hx (hj : ∀ i ls st h, BBh h → BR9 (jump i ls st h)) {pc : Nat} {ls : List am_V} (e : Nat) (h : am_H) (b : BBh h) : BR9 (am_hx hd jump pc ls e h) := by
  unfold am_hx
  split
  · exact bb_some b
  · exact hj _ _ _ _ b
theorem bb_inv (hc : ∀ m args h, BBh h → BR9 (call m args h)) (hj : ∀ i ls st h, BBh h → BR9 (jump i ls st h)) (hr : ∀ s l t h, BBh h → BR9 (rec s l t h)) {pc : Nat} {xs : List Int} {rest : List am_E} {ls st : List am_V} {h : am_H} (b : BBh h) : BR9 (am_inv hd call jump rec pc xs rest ls st h) := by
  have hx : ∀ e h, BBh h → BR9 (am_hx hd jump pc ls e h) := fun e h b => bb_hx hj e h b
  have hgo : BR9 (match (am_arg xs 3).toNat with
    | 0 => clV (call (am_arg xs 1).toNat (st.take (am_arg xs 2).toNat).reverse h) (am_hx hd jump pc ls) (fun h1 => rec rest ls (st.drop (am_arg xs 2).toNat) h1)
    | 1 => clI (call (am_arg xs 1).toNat (st.take (am_arg xs 2).toNat).reverse h) (am_hx hd jump pc ls) (fun v h1 => rec rest ls (Vi v :: st.drop (am_arg xs 2).toNat) h1)
    | _ => clP (call (am_arg xs 1).toNat (st.take (am_arg xs 2).toNat).reverse h) (am_hx hd jump pc ls) (fun v h1 => rec rest ls (Vr v :: st.drop (am_arg xs 2).toNat) h1)) := by
    split
    · exact bb_clV (hc _ _ _ b) hx (fun h b => hr _ _ _ _ b)
    · exact bb_clI (hc _ _ _ b) hx (fun v h b => hr _ _ _ _ b)
    · exact bb_clP (hc _ _ _ b) hx (fun v h b => hr _ _ _ _ b)
  have hany : BR9 (if am_can (am_arg xs 2).toNat st = true then (match (am_arg xs 4).toNat with
    | 0 => (match (am_arg xs 3).toNat with
    | 0 => clV (call (am_arg xs 1).toNat (st.take (am_arg xs 2).toNat).reverse h) (am_hx hd jump pc ls) (fun h1 => rec rest ls (st.drop (am_arg xs 2).toNat) h1)
    | 1 => clI (call (am_arg xs 1).toNat (st.take (am_arg xs 2).toNat).reverse h) (am_hx hd jump pc ls) (fun v h1 => rec rest ls (Vi v :: st.drop (am_arg xs 2).toNat) h1)
    | _ => clP (call (am_arg xs 1).toNat (st.take (am_arg xs 2).toNat).reverse h) (am_hx hd jump pc ls) (fun v h1 => rec rest ls (Vr v :: st.drop (am_arg xs 2).toNat) h1))
    | ci + 1 => match (st.take (am_arg xs 2).toNat).reverse with
      | v :: _ => am_rcv ci h v (match (am_arg xs 3).toNat with
    | 0 => clV (call (am_arg xs 1).toNat (st.take (am_arg xs 2).toNat).reverse h) (am_hx hd jump pc ls) (fun h1 => rec rest ls (st.drop (am_arg xs 2).toNat) h1)
    | 1 => clI (call (am_arg xs 1).toNat (st.take (am_arg xs 2).toNat).reverse h) (am_hx hd jump pc ls) (fun v h1 => rec rest ls (Vi v :: st.drop (am_arg xs 2).toNat) h1)
    | _ => clP (call (am_arg xs 1).toNat (st.take (am_arg xs 2).toNat).reverse h) (am_hx hd jump pc ls) (fun v h1 => rec rest ls (Vr v :: st.drop (am_arg xs 2).toNat) h1))
      | [] => none) else none) := by
    refine bb_ite (fun _ => ?_) (fun _ => bb_none)
    split
    · exact hgo
    · split
      · exact bb_rcv hgo
      · exact bb_none
  have hmk : BR9 (if am_can (am_arg xs 2).toNat st = true then (match (am_arg xs 4).toNat with
    | 0 => none
    | ci + 1 => match (st.take (am_arg xs 2).toNat).reverse with
      | v :: _ => am_rcv ci h v (clV (call (am_arg xs 1).toNat (st.take (am_arg xs 2).toNat).reverse h) am_xn0 (fun h1 => rec rest ls (st.drop (am_arg xs 2).toNat) h1))
      | [] => none) else none) := by
    refine bb_ite (fun _ => ?_) (fun _ => bb_none)
    split
    · exact bb_none
    · split
      · exact bb_rcv (bb_clV (hc _ _ _ b) (fun _ _ _ => bb_none) (fun h b => hr _ _ _ _ b))
      · exact bb_none
  unfold am_inv
  dsimp only
  generalize (am_arg xs 0).toNat = k
  split
  · exact hany
  · exact hmk
  · exact hmk
  · split
    · exact bb_ite (fun _ => hr _ _ _ _ b) (fun _ => bb_none)
    · exact bb_none
  · split
    · exact bb_cpA b (fun h b => hr _ _ _ _ b)
    · exact bb_none
  · split
    · exact bb_clA b (fun p h b => hr _ _ _ _ b)
    · exact bb_none
  · exact bb_none
  · refine bb_ite (fun _ => ?_) (fun _ => bb_none)
    split
    · exact bb_ite (fun _ => hgo) (fun _ => bb_none)
    · exact bb_none
set_option maxHeartbeats 4000000 in
theorem bb_step (hc : ∀ m args h, BBh h → BR9 (call m args h)) (hj : ∀ i ls st h, BBh h → BR9 (jump i ls st h)) (hr : ∀ s l t h, BBh h → BR9 (rec s l t h)) {sfx : List am_E} {ls st : List am_V} {h : am_H} (b : BBh h) : BR9 (am_step sc lt cd hd call jump rec sfx ls st h) := by
  rcases sfx with _ | ⟨⟨pc, len, I, xs⟩, rest⟩
  · exact bb_none
  · cases I <;> simp only [am_step, am_load, am_loada, am_store, am_storea]
    all_goals first
      | exact bb_none
      | exact hr _ _ _ _ b
      | exact bb_to hj hr b
      | exact bb_inv hc hj hr b
      | exact bb_bin fun _ _ _ => hr _ _ _ _ b
      | exact bb_bin fun _ _ _ => bb_ite (fun _ => bb_none) (fun _ => hr _ _ _ _ b)
      | exact bb_un fun _ _ => hr _ _ _ _ b
      | exact bb_un fun _ _ => bb_if (bb_to hj hr b) (hr _ _ _ _ b)
      | exact bb_bin fun _ _ _ => bb_if (bb_to hj hr b) (hr _ _ _ _ b)
      | exact bb_un fun _ _ => bb_sw (fun _ => bb_to hj hr b) _ _ _
      | exact bb_un fun _ _ => bb_lk (fun _ => bb_to hj hr b) _ _
      | exact bb_un fun _ _ => bb_newA b (fun _ _ b => hr _ _ _ _ b)
      | exact bb_ite (fun _ => hr _ _ _ _ b) (fun _ => hr _ _ _ _ b)
      | exact bb_ite (fun _ => hr _ _ _ _ (bb_new b)) (fun _ => bb_ite (fun _ => bb_some (bb_ex b)) (fun _ => bb_none))
      | skip
    all_goals (repeat' split)
    all_goals first
      | exact bb_none
      | exact hr _ _ _ _ b
      | exact bb_to hj hr b
      | exact bb_ite (fun _ => hr _ _ _ _ b) (fun _ => bb_none)
      | exact bb_ldA fun _ => hr _ _ _ _ b
      | exact bb_ldB fun _ => hr _ _ _ _ b
      | exact bb_ldP fun _ => hr _ _ _ _ b
      | exact bb_lenA fun _ => hr _ _ _ _ b
      | exact bb_gfI fun _ => hr _ _ _ _ b
      | exact bb_gfP fun _ => hr _ _ _ _ b
      | exact bb_stA (by decide) b fun _ b => hr _ _ _ _ b
      | exact bb_stB b fun _ b => hr _ _ _ _ b
      | exact bb_stP b fun _ b => hr _ _ _ _ b
      | exact bb_pfI b fun _ b => hr _ _ _ _ b
      | exact bb_pfP b fun _ b => hr _ _ _ _ b
      | exact bb_newG b fun _ _ b => hr _ _ _ _ b
      | exact bb_castA (hr _ _ _ _ b)
      | exact bb_retP b
      | exact bb_ret b
      | exact bb_some b
theorem bb_go (hc : ∀ m args h, BBh h → BR9 (call m args h)) (hj : ∀ i ls st h, BBh h → BR9 (jump i ls st h)) : ∀ (f : Nat) (s : List am_E) (l t : List am_V) (h : am_H), BBh h → BR9 (am_go sc lt cd hd call jump f s l t h)
  | 0, _, _, _, _, _ => bb_none
  | f + 1, _, _, _, _, b => bb_step hc hj (fun s l t h b => bb_go hc hj f s l t h b) b
theorem bb_lp (hc : ∀ m args h, BBh h → BR9 (call m args h)) (m : Nat) : ∀ (n i : Nat) (ls st : List am_V) (h : am_H), BBh h → BR9 (am_lp sc call m n i ls st h)
  | 0, _, _, _, _, _ => bb_none
  | n + 1, _, _, _, _, b => bb_go hc (fun i ls st h b => bb_lp hc m n i ls st h b) _ _ _ _ _ b
theorem bb_Ru : ∀ (d m i : Nat) (ls st : List am_V) (h : am_H), BBh h → BR9 (Ru sc d m i ls st h)
  | 0, _, _, _, _, _, _ => bb_none
  | d + 1, m, i, ls, st, h, b => by
    intro x g e
    obtain ⟨n, hn⟩ := am_lim_some sc _ e
    exact bb_lp (fun m1 args h1 b1 => bb_ite (fun _ => bb_Ru d m1 0 _ [] h1 b1) (fun _ => bb_none)) m n i ls st h b x g hn
theorem bb_Cl {d m : Nat} {args : List am_V} {h : am_H} (b : BBh h) : BR9 (Cl sc d m args h) := bb_ite (fun _ => bb_Ru d m 0 _ [] h b) (fun _ => bb_none)
end
/-- all counties' booleans -/
theorem bb_county {h : am_H} {I : am_I} (s : Sh h) (b : BBh (hI h I)) {a : Nat} (ca : isC a) : BBo I a := by
  have c := cty_of s ca
  intro i _
  exact ⟨b (a + 1) i (by rw [hT_hI, c.2.1]), b (a + 4) i (by rw [hT_hI, c.2.2.2.2.1]), b (a + 5) i (by rw [hT_hI, c.2.2.2.2.2.1])⟩
