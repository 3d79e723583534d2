/-! THE CLAIM OUT OF ONE WALK OF THE LAW'S BODY. Your part is whole_start (and what it stands on); all else here is the same for every law, but numbers. -/
def R_law : String := "OldFencesLaw"
def lw_P (b : Addr) (xs : List Int32) (args : Array Value) (s : State) : Prop := args = #[.ref b] ∧ s.IntsAt b xs ∧ xs.length ≤ 3072 ∧ (Jvm.Cond.and given_1 narrow_1).before args s = true
def lw_Q (_ : Array Value) (s : State) (o : Outcome) (t : State) : Prop := o = .returned (some (.int 1)) ∧ Framed s o t [] room_1.cells room_1.slots
def lw_Z (below : List Frame) (a : Array Value) (s : State) : State → Prop := fun t => ∃ o, t.status = .running ∧ Ended t below o ∧ lw_Q a s o t
/-- what holds at the law's entry: the machine, the code, the tables' words (any of lw_tbl by 'hts w (by decide +kernel)'), the script of L ints xs at the cell b, what the Statement gives of the start (any of its parts by flat_of_before) -/
def lw_At (p : Program) (s : State) (m : MethodId) (meth : Method) (c : Code) (b L : Nat) (xs : Nat → Int32) : Prop :=
  p.tables.exec = Jvm.exec ∧ c.code = code ∧ meth.sig.returnType = ret ∧ c.maxLocals = 7 ∧ s.vm.findClass R_law = some m.cls ∧ (∀ w ∈ lw_tbl, w.before #[Value.ref b] s = true) ∧ va_X b L xs s s.heap ∧ b < s.heap.size ∧ meth.locks = false ∧ (Jvm.Cond.and given_1 narrow_1).before #[Value.ref b] s = true
/-! THE LAW, BY A RUN OF THE MACHINE -/
theorem am_flags {l : Launch} (h : l.flags = flags0) : l.stackTraces = false := by
  unfold Launch.stackTraces
  rw [h]
  decide +kernel
theorem am_W_to {p : Program} {l : Launch} {e : Env} {d mc ms : Nat} {s : State} {m : MethodId} {args : Array Value} {below : List Frame} {meth : Method} {c : Code} {H : Heap} {Q Q1 : State → Prop} {g : JFrame} (hd : d ≤ 1000) (hc : mc ≤ room_1.cells) (hs : ms ≤ room_1.slots) (hQ : ∀ t, Q t → Q1 t) (h : W p l e (am_rm d mc ms) s m args below meth c H [] 0 0 Q g) : W p l e room_1 s m args below meth c H [] 0 0 Q1 g := by
  intro T hT X
  have hroom : s.hasRoom e.platform (am_rm d mc ms) = true := by
    have hs0 := State.hasRoom_stack X.room
    have hs1 := State.hasRoom_heap X.room
    have hs3 := State.hasRoom_real X.room
    have hs4 : s.slotsTrue = true := by
      have h := X.room
      simp only [State.hasRoom, Bool.and_eq_true] at h
      exact h.2
    have e1 : room_1.frames = 2048 := rfl
    have e4 : room_1.locals = 84000 := rfl
    rw [e1, e4] at hs0
    rw [e4] at hs3
    have f4 : (am_rm d mc ms).locals ≤ 84000 := by show (d + 1) * 60 + 200 ≤ 84000; omega
    have f1 : (am_rm d mc ms).frames ≤ 2048 := by show d + 10 ≤ 2048; omega
    refine State.hasRoom_of (State.hasRoom_plain X.room) (Nat.le_trans (Nat.add_le_add_left f1 _) hs0.1) (Nat.le_trans (Nat.add_le_add_left f4 _) hs0.2.2.1) (Nat.le_trans (Nat.add_le_add_left hc _) hs1.1) (Nat.le_trans (Nat.add_le_add_left hs _) hs1.2) hs4 (Nat.le_trans (Nat.add_le_add_right (Nat.add_le_add_left f4 _) _) hs3)
  obtain ⟨t, a1, a2⟩ := h T hT { X with room := hroom }
  exact ⟨t, a1, hQ t a2⟩
theorem am_mt_law : am_mt mL_law_ = (⟨"OldFencesLaw", "law", "([I)Z"⟩, code, 7, some .boolean, 1, []) := rfl
theorem am_whole {p : Program} {e : Env} {s : State} {m : MethodId} {below : List Frame} {meth : Method} {c : Code} {l : Launch} (hl : l.stackTraces = false) {b L : Nat} {xs : Nat → Int32} (hL : L ≤ 3072) (C0 : lw_At p s m meth c b L xs) (hname : meth.name = "law") (htab : c.exceptionTable.toList = []) (hk : am_kk) (hc : am_ckm mL_law_ [] = true) {d : Nat} (hd : d + 1 ≤ 1000) {h1 : am_H}
    (H : Cl (L, fun j => (xs j).toInt) (d + 1) mL_law_ [Vx 1] am_h0 = some (.inl (Vi 1), h1)) (h1c : hC h1 ≤ room_1.cells) (h1s : hS h1 ≤ room_1.slots) : W p l e room_1 s m #[Value.ref b] below meth c s.heap [] 0 0 (lw_Z below #[Value.ref b] s) (entryFrame m ([Value.ref b] : List Value).toArray 7) := by
  obtain ⟨hx, hb, hr, hml, hown, hts, hX, hbl, hlocks, hgv⟩ := C0
  obtain ⟨G, yc, q, hq, hE⟩ := am_start hts hgv hX hbl hL
  have hc0 := hc
  unfold am_ckm at hc0
  simp only [Bool.and_eq_true, decide_eq_true_eq] at hc0
  have h7 : (am_at mL_law_).2.2 = 7 := by rw [hc0.1.1.1, am_mt_law]
  unfold Cl at H
  rw [h7] at H
  have hP := am_Ru_ok hl hk hc H hc0.1.1.2
  have hs : am_sl (fun _ => 0) q [Vx 1] [Value.ref b] := ⟨(by show Value.ref b = Value.ref (q 1); rw [hq]), trivial⟩
  obtain ⟨lsA, e1, e2⟩ := am_entry hs rfl (n := 7) (by decide) m
  rw [e1]
  have k := hP.2 p e s m #[Value.ref b] below meth c G yc q s.heap.size am_h0 (fun _ => 0) (by
    rw [am_mt_law]
    exact ⟨hx, hb, hml, hown, fun w hw => hts w (List.mem_filter.mp hw).1, hlocks, hr, hname, htab, hl, hE⟩) (am_mono.rf am_h0) s.heap [] (fun _ => 0) lsA [] (fun _ _ => rfl) ⟨(fun k x hk => nomatch hk), ⟨(fun i j p q h => nomatch h), (fun k q h => nomatch h)⟩, (fun a i => am_n32_0), (fun a i b h => nomatch h), (fun a => Nat.zero_le _)⟩ ⟨Nat.le_refl _, (fun _ _ _ => rfl), (fun z hz => nomatch hz)⟩ (by rw [am_mt_law]; exact e2) trivial (am_lk_pad (fun v hv => by
      rcases List.mem_singleton.mp hv with rfl
      trivial)) (fun v hv => nomatch hv)
  rw [Nat.sub_self, Nat.sub_self] at k
  refine am_W_to hd h1c h1s (fun t ht => ?_) k
  obtain ⟨o, t1, t2, t3⟩ := ht
  refine ⟨o, t1, t2, ?_⟩
  rcases t3 with ⟨⟨v, ad1, g1, -, -, g2, -⟩, Lc, ⟨f1, f2, f3⟩, f4⟩ | ⟨q9, -, E, ce, Lc, ⟨k9, ad1, g1, -⟩, -⟩
  · cases g1
    subst g2
    exact ⟨rfl, f1, f2, State.sameButNew.mono (State.sameButNew.drop_fresh (L := []) (by rw [List.nil_append]; exact f3) f4) h1c h1s⟩
  · cases g1
