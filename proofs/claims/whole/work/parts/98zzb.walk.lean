/-! THE WALK: what a call throws; the law's own row of longs stays -/
def KK (o : Int) (h : am_H) : Prop := hT h 303 = (4, 1) ∧ 304 ≤ hZ h ∧ rI h 303 0 = o
def XR (o : Int) (S : List Nat) (r : am_R) : Prop := ∀ x h, r = some (x, h) → KK o h ∧ ∀ e, x = .inr e → e ∈ S
section
variable {o : Int} {S S' : List Nat}
theorem xx_none : XR o S none := fun _ _ e => by cases e
theorem xx_some {v : am_V} {h : am_H} (b : KK o h) : XR o S (some (.inl v, h)) := fun y g e => by
  cases e
  exact ⟨b, fun e z => by cases z⟩
theorem xx_err {e : Nat} {h : am_H} (b : KK o h) (he : e ∈ S) : XR o S (some (.inr e, h)) := fun y g z => by
  cases z
  exact ⟨b, fun e z => by cases z; exact he⟩
theorem xx_ite {P : Prop} [Decidable P] {x y : am_R} (h1 : P → XR o S x) (h2 : ¬ P → XR o S y) : XR o S (if P then x else y) := by
  by_cases h : P
  · rw [if_pos h]
    exact h1 h
  · rw [if_neg h]
    exact h2 h
section
variable {h : am_H} {a t n : Nat} {i v : Int} {r q : Option Nat}
theorem xx_wI {j : Nat} (b : KK o h) (ht : a ≠ 303) : KK o (wI h a j v) := by
  refine ⟨b.1, b.2.1, ?_⟩
  show am_u2 h.2.2.2.2.1 a j v 303 0 = o
  unfold am_u2
  rw [if_neg (fun e => ht e.1.symm)]
  exact b.2.2
theorem xx_ne (b : KK o h) (ht : (hT h a).1 ≠ 4) : a ≠ 303 := fun e => by
  rw [e, b.1] at ht
  exact ht rfl
theorem xx_wP {j : Nat} (b : KK o h) : KK o (wP h a j r) := b
theorem xx_ex (b : KK o h) : KK o (am_ex h) := b
theorem xx_new {k : Nat} (b : KK o h) : KK o (am_new h t n k) := by
  have e : (303 : Nat) ≠ hZ h := by have := b.2.1; omega
  obtain ⟨n1, -, -, n4⟩ := GN.new (g := h) (t := t) (n := n) (k := k)
  obtain ⟨m1, m2, -⟩ := n4 303 e
  exact ⟨m1.trans b.1, by rw [n1]; have := b.2.1; omega, (m2 0).trans b.2.2⟩
theorem xx_cln (b : KK o h) : KK o (am_cln h a) := by
  have e : (303 : Nat) ≠ hZ h := by have := b.2.1; omega
  obtain ⟨n1, -, -, n4⟩ := GN.cln (g := h) (a := a) (Nat.le_refl _)
  obtain ⟨m1, m2, -⟩ := n4 303 e
  exact ⟨m1.trans b.1, by rw [n1]; have := b.2.1; omega, (m2 0).trans b.2.2⟩
theorem xx_cp {sp b dp : Nat} (bb : KK o h) (ht : (hT h b).1 = 1) : KK o (cpI h a sp b dp n) := by
  have ne := xx_ne bb (a := b) (by omega)
  refine ⟨bb.1, bb.2.1, ?_⟩
  show am_cpf h.2.2.2.2.1 a sp b dp n 303 0 = o
  unfold am_cpf
  rw [if_neg (fun e => ne e.1.symm)]
  exact bb.2.2
theorem xx_ldA {k : Int → am_R} (hk : ∀ v, XR o S (k v)) : XR o S (ldA t h r i k) := by
  unfold ldA
  split
  · exact xx_ite (fun _ => hk _) (fun _ => xx_none)
  · exact xx_none
theorem xx_ldB {k : Int → am_R} (hk : ∀ v, XR o S (k v)) : XR o S (ldB h r i k) := by
  unfold ldB
  split
  · exact xx_ite (fun _ => hk _) (fun _ => xx_none)
  · exact xx_none
theorem xx_ldP {k : Option Nat → am_R} (hk : ∀ v, XR o S (k v)) : XR o S (ldP t h r i k) := by
  unfold ldP
  split
  · exact xx_ite (fun _ => hk _) (fun _ => xx_none)
  · exact xx_none
theorem xx_lenA {k : Int → am_R} (hk : ∀ v, XR o S (k v)) : XR o S (lenA h r k) := by
  unfold lenA
  split
  · exact xx_ite (fun _ => hk _) (fun _ => xx_none)
  · exact xx_none
theorem xx_gfI {ci j : Nat} {k : Int → am_R} (hk : ∀ v, XR o S (k v)) : XR o S (gfI ci j h r k) := by
  unfold gfI
  split
  · exact xx_ite (fun _ => hk _) (fun _ => xx_none)
  · exact xx_none
theorem xx_gfP {ci j : Nat} {k : Option Nat → am_R} (hk : ∀ v, XR o S (k v)) : XR o S (gfP ci j h r k) := by
  unfold gfP
  split
  · exact xx_ite (fun _ => hk _) (fun _ => xx_none)
  · exact xx_none
theorem xx_stA {k : am_H → am_R} (ht : t ≠ 4) (b : KK o h) (hk : ∀ h1, KK o h1 → XR o S (k h1)) : XR o S (stA t h r i v k) := by
  unfold stA
  split
  · exact xx_ite (fun e => hk _ (xx_wI b (xx_ne b (by omega)))) (fun _ => xx_none)
  · exact xx_none
theorem xx_stB {k : am_H → am_R} (b : KK o h) (hk : ∀ h1, KK o h1 → XR o S (k h1)) : XR o S (stB h r i v k) := by
  unfold stB
  split
  · exact xx_ite (fun e => hk _ (xx_wI b (xx_ne b (by omega)))) (fun _ => xx_none)
  · exact xx_none
theorem xx_stP {ci : Nat} {k : am_H → am_R} (b : KK o h) (hk : ∀ h1, KK o h1 → XR o S (k h1)) : XR o S (stP ci h r i q k) := by
  unfold stP
  split
  · exact xx_ite (fun e => hk _ (xx_wP b)) (fun _ => xx_none)
  · exact xx_none
theorem xx_pfI {ci j : Nat} {k : am_H → am_R} (b : KK o h) (hk : ∀ h1, KK o h1 → XR o S (k h1)) : XR o S (pfI t ci j h r v k) := by
  unfold pfI
  split
  · exact xx_ite (fun e => hk _ (xx_wI b (xx_ne b (by rw [e.1]; show (0 : Nat) ≠ 4; decide)))) (fun _ => xx_none)
  · exact xx_none
theorem xx_pfP {ci j : Nat} {k : am_H → am_R} (b : KK o h) (hk : ∀ h1, KK o h1 → XR o S (k h1)) : XR o S (pfP ci j h r q k) := by
  unfold pfP
  split
  · exact xx_ite (fun e => hk _ (xx_wP b)) (fun _ => xx_none)
  · exact xx_none
theorem xx_newA {k : Option Nat → am_H → am_R} (b : KK o h) (hk : ∀ p h1, KK o h1 → XR o S (k p h1)) : XR o S (newA t h i k) := xx_ite (fun _ => hk _ _ (xx_new b)) (fun _ => xx_none)
theorem xx_newG {k : Option Nat → am_H → am_R} (b : KK o h) (hk : ∀ p h1, KK o h1 → XR o S (k p h1)) : XR o S (newG h i v k) := by
  refine xx_ite (fun _ => hk _ _ ?_) (fun _ => xx_none)
  generalize i.toNat = n1
  generalize v.toNat = n2
  have hz := b.2.1
  have hz' : 304 ≤ h.2.2.1 := hz
  refine ⟨?_, ?_, ?_⟩
  · show (if 303 = h.2.2.1 then (6, n1) else if h.2.2.1 < 303 ∧ 303 < h.2.2.1 + (1 + n1) then (1, n2) else h.2.2.2.1 303) = (4, 1)
    rw [if_neg (by omega), if_neg (by omega)]
    exact b.1
  · show 304 ≤ h.2.2.1 + (1 + n1)
    omega
  · show (if h.2.2.1 ≤ 303 ∧ 303 < h.2.2.1 + (1 + n1) then (fun _ => (0 : Int)) else h.2.2.2.2.1 303) 0 = o
    rw [if_neg (by omega)]
    exact b.2.2
theorem xx_cpA {dp n : Int} {k : am_H → am_R} (b : KK o h) (hk : ∀ h1, KK o h1 → XR o S (k h1)) : XR o S (cpA h r i q dp n k) := by
  unfold cpA
  split
  · exact xx_ite (fun e => hk _ (xx_cp b e.2.1)) (fun _ => xx_none)
  · exact xx_none
theorem xx_clA {k : Option Nat → am_H → am_R} (b : KK o h) (hk : ∀ p h1, KK o h1 → XR o S (k p h1)) : XR o S (clA h r k) := by
  unfold clA
  split
  · exact xx_ite (fun e => hk _ _ (xx_cln b)) (fun _ => xx_none)
  · exact xx_none
theorem xx_castA {k : am_R} (hk : XR o S k) : XR o S (castA h r k) := by
  unfold castA
  split
  · exact xx_ite (fun e => hk) (fun _ => xx_none)
  · exact xx_none
theorem xx_retP (b : KK o h) : XR o S (retP h r) := by
  unfold retP
  split
  · exact xx_some b
  · exact xx_none
theorem xx_ret (b : KK o h) : XR o S (am_ret i v h) := by
  unfold am_ret
  repeat' split
  all_goals first | exact xx_none | exact xx_some b
theorem xx_clI {z : am_R} {x : Nat → am_H → am_R} {k : Int → am_H → am_R} (hz : XR o S' z) (hx : ∀ e h, KK o h → e ∈ S' → XR o S (x e h)) (hk : ∀ v h, KK o h → XR o S (k v h)) : XR o S (clI z x k) := by
  unfold clI
  split
  · exact hk _ _ (hz _ _ rfl).1
  · exact hx _ _ (hz _ _ rfl).1 ((hz _ _ rfl).2 _ rfl)
  · exact xx_none
theorem xx_clP {z : am_R} {x : Nat → am_H → am_R} {k : Option Nat → am_H → am_R} (hz : XR o S' z) (hx : ∀ e h, KK o h → e ∈ S' → XR o S (x e h)) (hk : ∀ v h, KK o h → XR o S (k v h)) : XR o S (clP z x k) := by
  unfold clP
  split
  · exact hk _ _ (hz _ _ rfl).1
  · exact hx _ _ (hz _ _ rfl).1 ((hz _ _ rfl).2 _ rfl)
  · exact xx_none
theorem xx_clV {z : am_R} {x : Nat → am_H → am_R} {k : am_H → am_R} (hz : XR o S' z) (hx : ∀ e h, KK o h → e ∈ S' → XR o S (x e h)) (hk : ∀ h, KK o h → XR o S (k h)) : XR o S (clV z x k) := by
  unfold clV
  split
  · exact hk _ (hz _ _ rfl).1
  · exact hx _ _ (hz _ _ rfl).1 ((hz _ _ rfl).2 _ rfl)
  · exact xx_none
theorem xx_rcv {ci : Nat} {w : am_V} {k : am_R} (hk : XR o S k) : XR o S (am_rcv ci h w k) := by
  unfold am_rcv
  split
  · exact xx_ite (fun _ => hk) (fun _ => xx_none)
  · exact xx_none
theorem xx_if {c : ClassFile.Cond} {x y : Int} {u w : am_R} (hu : XR o S u) (hw : XR o S w) : XR o S (am_if c x y u w) := by
  cases c <;> exact xx_ite (fun _ => by assumption) (fun _ => by assumption)
theorem xx_sw {x : Int} {J : Nat → am_R} (hJ : ∀ j, XR o S (J j)) : ∀ (n : Nat) (v : Int) (j : Nat), XR o S (am_sw x J v n j)
  | 0, _, _ => hJ 0
  | n + 1, v, j => xx_ite (fun _ => hJ j) (fun _ => xx_sw hJ n (v + 1) (j + 1))
theorem xx_lk {x : Int} {J : Nat → am_R} (hJ : ∀ j, XR o S (J j)) : ∀ (l : List (Int × Int)) (j : Nat), XR o S (am_lk x J l j)
  | [], _ => hJ 0
  | _ :: l, j => xx_ite (fun _ => hJ j) (fun _ => xx_lk hJ l (j + 1))
theorem xx_bin {st : List am_V} {K : Int → Int → List am_V → am_R} (hK : ∀ x y r, XR o S (K x y r)) : XR o S (am_bin st K) := by
  unfold am_bin
  split
  · exact hK _ _ _
  · exact xx_none
theorem xx_un {st : List am_V} {K : Int → List am_V → am_R} (hK : ∀ x r, XR o S (K x r)) : XR o S (am_un st K) := by
  unfold am_un
  split
  · exact hK _ _
  · exact xx_none
end
section
variable {sc : Nat × (Nat → Int)} {lt : Nat → List Int} {cd : List am_E} {call : am_C} {jump : am_J} {rec : am_K} {M : Nat}
theorem xx_to (hcd : ∀ x ∈ cd, okE M x = true) (hj : ∀ i ls st h, KK o h → XR o (exS M) (jump i ls st h)) (hr : ∀ s l t h, (∀ x ∈ s, okE M x = true) → KK o h → XR o (exS M) (rec s l t h)) {xs : List Int} {i : Nat} {ls st : List am_V} {h : am_H} (b : KK o h) : XR o (exS M) (am_to cd jump rec xs i ls st h) := xx_ite (fun _ => hr _ _ _ _ (fun x hx => hcd x (List.mem_of_mem_drop hx)) b) (fun _ => hj _ _ _ _ b)
theorem xx_hx {pc : Nat} {ls : List am_V} (e : Nat) (h : am_H) (b : KK o h) (he : e ∈ exS M) : XR o (exS M) (am_hx [] jump pc ls e h) := xx_err b he
theorem xx_inv {rest : List am_E} (hc : ∀ m args h, m < 386 → KK o h → XR o (exS m) (call m args h)) (hr : ∀ l t h, KK o h → XR o (exS M) (rec rest l t h)) {pc : Nat} {xs : List Int} {ls st : List am_V} {h : am_H} (b : KK o h) (hok : (decide ((am_arg xs 1).toNat < 386) && (exS (am_arg xs 1).toNat).all (fun e => (exS M).contains e)) = true) : XR o (exS M) (am_inv [] call jump rec pc xs rest ls st h) := by
  rw [Bool.and_eq_true, decide_eq_true_eq, List.all_eq_true] at hok
  obtain ⟨hm, hS⟩ := hok
  have hcall : ∀ args h, KK o h → XR o (exS (am_arg xs 1).toNat) (call (am_arg xs 1).toNat args h) := fun args h b => hc _ args h hm b
  have hx : ∀ e h, KK o h → e ∈ exS (am_arg xs 1).toNat → XR o (exS M) (am_hx [] jump pc ls e h) := fun e h b he => xx_hx e h b (List.contains_iff_mem.mp (hS e he))
  have hgo : XR o (exS M) (match (am_arg xs 3).toNat with
    | 0 => clV (call (am_arg xs 1).toNat (st.take (am_arg xs 2).toNat).reverse h) (am_hx [] jump pc ls) (fun h1 => rec rest ls (st.drop (am_arg xs 2).toNat) h1)
    | 1 => clI (call (am_arg xs 1).toNat (st.take (am_arg xs 2).toNat).reverse h) (am_hx [] jump pc ls) (fun v h1 => rec rest ls (Vi v :: st.drop (am_arg xs 2).toNat) h1)
    | _ => clP (call (am_arg xs 1).toNat (st.take (am_arg xs 2).toNat).reverse h) (am_hx [] jump pc ls) (fun v h1 => rec rest ls (Vr v :: st.drop (am_arg xs 2).toNat) h1)) := by
    split
    · exact xx_clV (hcall _ _ b) hx (fun h b => hr _ _ _ b)
    · exact xx_clI (hcall _ _ b) hx (fun v h b => hr _ _ _ b)
    · exact xx_clP (hcall _ _ b) hx (fun v h b => hr _ _ _ b)
  have hany : XR o (exS M) (if am_can (am_arg xs 2).toNat st = true then (match (am_arg xs 4).toNat with
    | 0 => (match (am_arg xs 3).toNat with
    | 0 => clV (call (am_arg xs 1).toNat (st.take (am_arg xs 2).toNat).reverse h) (am_hx [] jump pc ls) (fun h1 => rec rest ls (st.drop (am_arg xs 2).toNat) h1)
    | 1 => clI (call (am_arg xs 1).toNat (st.take (am_arg xs 2).toNat).reverse h) (am_hx [] jump pc ls) (fun v h1 => rec rest ls (Vi v :: st.drop (am_arg xs 2).toNat) h1)
    | _ => clP (call (am_arg xs 1).toNat (st.take (am_arg xs 2).toNat).reverse h) (am_hx [] jump pc ls) (fun v h1 => rec rest ls (Vr v :: st.drop (am_arg xs 2).toNat) h1))
    | ci + 1 => match (st.take (am_arg xs 2).toNat).reverse with
      | v :: _ => am_rcv ci h v (match (am_arg xs 3).toNat with
    | 0 => clV (call (am_arg xs 1).toNat (st.take (am_arg xs 2).toNat).reverse h) (am_hx [] jump pc ls) (fun h1 => rec rest ls (st.drop (am_arg xs 2).toNat) h1)
    | 1 => clI (call (am_arg xs 1).toNat (st.take (am_arg xs 2).toNat).reverse h) (am_hx [] jump pc ls) (fun v h1 => rec rest ls (Vi v :: st.drop (am_arg xs 2).toNat) h1)
    | _ => clP (call (am_arg xs 1).toNat (st.take (am_arg xs 2).toNat).reverse h) (am_hx [] jump pc ls) (fun v h1 => rec rest ls (Vr v :: st.drop (am_arg xs 2).toNat) h1))
      | [] => none) else none) := by
    refine xx_ite (fun _ => ?_) (fun _ => xx_none)
    split
    · exact hgo
    · split
      · exact xx_rcv hgo
      · exact xx_none
  have hmk : XR o (exS M) (if am_can (am_arg xs 2).toNat st = true then (match (am_arg xs 4).toNat with
    | 0 => none
    | ci + 1 => match (st.take (am_arg xs 2).toNat).reverse with
      | v :: _ => am_rcv ci h v (clV (call (am_arg xs 1).toNat (st.take (am_arg xs 2).toNat).reverse h) am_xn0 (fun h1 => rec rest ls (st.drop (am_arg xs 2).toNat) h1))
      | [] => none) else none) := by
    refine xx_ite (fun _ => ?_) (fun _ => xx_none)
    split
    · exact xx_none
    · split
      · exact xx_rcv (xx_clV (hcall _ _ b) (fun _ _ _ _ => xx_none) (fun h b => hr _ _ _ b))
      · exact xx_none
  unfold am_inv
  dsimp only
  generalize (am_arg xs 0).toNat = k
  split
  · exact hany
  · exact hmk
  · exact hmk
  · split
    · exact xx_ite (fun _ => hr _ _ _ b) (fun _ => xx_none)
    · exact xx_none
  · split
    · exact xx_cpA b (fun h b => hr _ _ _ b)
    · exact xx_none
  · split
    · exact xx_clA b (fun p h b => hr _ _ _ b)
    · exact xx_none
  · exact xx_none
  · refine xx_ite (fun _ => ?_) (fun _ => xx_none)
    split
    · exact xx_ite (fun _ => hgo) (fun _ => xx_none)
    · exact xx_none
set_option maxHeartbeats 4000000 in
theorem xx_step (hcd : ∀ x ∈ cd, okE M x = true) (hc : ∀ m args h, m < 386 → KK o h → XR o (exS m) (call m args h)) (hj : ∀ i ls st h, KK o h → XR o (exS M) (jump i ls st h)) (hr : ∀ s l t h, (∀ x ∈ s, okE M x = true) → KK o h → XR o (exS M) (rec s l t h)) {sfx : List am_E} (hs : ∀ x ∈ sfx, okE M x = true) {ls st : List am_V} {h : am_H} (b : KK o h) : XR o (exS M) (am_step sc lt cd [] call jump rec sfx ls st h) := by
  rcases sfx with _ | ⟨⟨pc, len, I, xs⟩, rest⟩
  · exact xx_none
  · have hok := hs _ (List.mem_cons_self ..)
    have hr1 : ∀ l t h, KK o h → XR o (exS M) (rec rest l t h) := fun l t h b => hr _ _ _ _ (fun x hx => hs x (List.mem_cons_of_mem _ hx)) b
    have ht : ∀ {i : Nat} {l t : List am_V} {h : am_H}, KK o h → XR o (exS M) (am_to cd jump rec xs i l t h) := fun {i l t h} b => xx_to hcd hj hr b
    clear hs
    cases I <;> simp only [am_step, am_load, am_loada, am_store, am_storea, okE] at hok ⊢
    all_goals first
      | exact absurd hok Bool.false_ne_true
      | exact xx_none
      | exact hr1 _ _ _ b
      | exact ht b
      | exact xx_inv hc hr1 b hok
      | exact xx_bin fun _ _ _ => hr1 _ _ _ b
      | exact xx_bin fun _ _ _ => xx_ite (fun _ => xx_none) (fun _ => hr1 _ _ _ b)
      | exact xx_un fun _ _ => hr1 _ _ _ b
      | exact xx_un fun _ _ => xx_if (ht b) (hr1 _ _ _ b)
      | exact xx_bin fun _ _ _ => xx_if (ht b) (hr1 _ _ _ b)
      | exact xx_un fun _ _ => xx_sw (fun _ => ht b) _ _ _
      | exact xx_un fun _ _ => xx_lk (fun _ => ht b) _ _
      | exact xx_un fun _ _ => xx_newA b (fun _ _ b => hr1 _ _ _ b)
      | exact xx_ite (fun _ => hr1 _ _ _ b) (fun _ => hr1 _ _ _ b)
      | exact xx_ite (fun _ => hr1 _ _ _ (xx_new b)) (fun z => xx_ite (fun _ => xx_err (xx_ex b) (List.contains_iff_mem.mp (by rw [if_neg z] at hok; exact hok))) (fun _ => xx_none))
      | skip
    all_goals (repeat' split)
    all_goals first
      | exact xx_none
      | exact hr1 _ _ _ b
      | exact ht b
      | exact xx_ite (fun _ => hr1 _ _ _ b) (fun _ => xx_none)
      | exact xx_ldA fun _ => hr1 _ _ _ b
      | exact xx_ldB fun _ => hr1 _ _ _ b
      | exact xx_ldP fun _ => hr1 _ _ _ b
      | exact xx_lenA fun _ => hr1 _ _ _ b
      | exact xx_gfI fun _ => hr1 _ _ _ b
      | exact xx_gfP fun _ => hr1 _ _ _ b
      | exact xx_stA (by decide) b fun _ b => hr1 _ _ _ b
      | exact xx_stB b fun _ b => hr1 _ _ _ b
      | exact xx_stP b fun _ b => hr1 _ _ _ b
      | exact xx_pfI b fun _ b => hr1 _ _ _ b
      | exact xx_pfP b fun _ b => hr1 _ _ _ b
      | exact xx_newG b fun _ _ b => hr1 _ _ _ b
      | exact xx_castA (hr1 _ _ _ b)
      | exact xx_retP b
      | exact xx_ret b
      | exact xx_some b
theorem xx_go (hcd : ∀ x ∈ cd, okE M x = true) (hc : ∀ m args h, m < 386 → KK o h → XR o (exS m) (call m args h)) (hj : ∀ i ls st h, KK o h → XR o (exS M) (jump i ls st h)) : ∀ (f : Nat) (s : List am_E) (l t : List am_V) (h : am_H), (∀ x ∈ s, okE M x = true) → KK o h → XR o (exS M) (am_go sc lt cd [] call jump f s l t h)
  | 0, _, _, _, _, _, _ => xx_none
  | f + 1, _, _, _, _, hs, b => xx_step hcd hc hj (fun s l t h hs b => xx_go hcd hc hj f s l t h hs b) hs b
theorem ok_at {m : Nat} (hm : m < 386) : (∀ x ∈ (am_at m).1, okE m x = true) ∧ (am_at m).2.1 = [] := by
  have h := okM_all m hm
  unfold okM at h
  rw [Bool.and_eq_true, decide_eq_true_eq, List.all_eq_true] at h
  exact h
theorem xx_lp (hc : ∀ m args h, m < 386 → KK o h → XR o (exS m) (call m args h)) {m : Nat} (hm : m < 386) : ∀ (n i : Nat) (ls st : List am_V) (h : am_H), KK o h → XR o (exS m) (am_lp sc call m n i ls st h)
  | 0, _, _, _, _, _ => xx_none
  | n + 1, i, ls, st, h, b => by
    obtain ⟨h1, h2⟩ := ok_at hm
    show XR o (exS m) (am_go sc am_lit (am_at m).1 (am_at m).2.1 call (am_lp sc call m n) 4000 ((am_at m).1.drop i) ls st h)
    rw [h2]
    exact xx_go h1 hc (fun i ls st h b => xx_lp hc hm n i ls st h b) _ _ _ _ _ (fun x hx => h1 x (List.mem_of_mem_drop hx)) b
theorem xx_Ru : ∀ (d m i : Nat) (ls st : List am_V) (h : am_H), m < 386 → KK o h → XR o (exS m) (Ru sc d m i ls st h)
  | 0, _, _, _, _, _, _, _ => xx_none
  | d + 1, m, i, ls, st, h, hm, b => by
    intro x g e
    obtain ⟨n, hn⟩ := am_lim_some sc _ e
    exact xx_lp (fun m1 args h1 hm1 b1 => xx_ite (fun _ => xx_Ru d m1 0 _ [] h1 hm1 b1) (fun _ => xx_none)) hm n i ls st h b x g hn
theorem xx_Cl {d m : Nat} {args : List am_V} {h : am_H} (hm : m < 386) (b : KK o h) : XR o (exS m) (Cl sc d m args h) := xx_ite (fun _ => xx_Ru d m 0 _ [] h hm b) (fun _ => xx_none)
end
end
