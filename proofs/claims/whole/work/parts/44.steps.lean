/-! STEPS: from what follows a step to what stands ahead of it -/
theorem am_sl_i {ad q : Nat → Nat} {x : Int} {l : List am_V} {m : List Value} (h : am_sl ad q (Vi x :: l) m) : ∃ m1, m = .int (Int32.ofInt x) :: m1 ∧ am_sl ad q l m1 := by
  cases m with
  | nil => exact h.elim
  | cons v m => exact ⟨m, by rw [show v = .int (Int32.ofInt x) from h.1], h.2⟩
theorem am_sl_l {ad q : Nat → Nat} {x : Int} {l : List am_V} {m : List Value} (h : am_sl ad q (Vl x :: l) m) : ∃ m1, m = .long (Int64.ofInt x) :: m1 ∧ am_sl ad q l m1 := by
  cases m with
  | nil => exact h.elim
  | cons v m => exact ⟨m, by rw [show v = .long (Int64.ofInt x) from h.1], h.2⟩
theorem am_sl_r {ad q : Nat → Nat} {x : Option Nat} {l : List am_V} {m : List Value} (h : am_sl ad q (Vr x :: l) m) : ∃ m1, m = va_rf (x.map ad) :: m1 ∧ am_sl ad q l m1 := by
  cases m with
  | nil => exact h.elim
  | cons v m => exact ⟨m, by rw [show v = va_rf (x.map ad) from h.1], h.2⟩
theorem am_sl_x {ad q : Nat → Nat} {k : Nat} {l : List am_V} {m : List Value} (h : am_sl ad q (Vx (k + 1) :: l) m) : ∃ m1, m = .ref (q (k + 1)) :: m1 ∧ am_sl ad q l m1 := by
  cases m with
  | nil => exact h.elim
  | cons v m => exact ⟨m, by rw [show v = .ref (q (k + 1)) from h.1], h.2⟩
theorem am_sl_0 {ad q : Nat → Nat} {l : List am_V} {m : List Value} (h : am_sl ad q (Vx 0 :: l) m) : ∃ v m1, m = v :: m1 ∧ (v = .null ∨ ∃ z, v = .ref z) ∧ am_sl ad q l m1 := by
  cases m with
  | nil => exact h.elim
  | cons v m => exact ⟨v, m, rfl, h.1, h.2⟩
theorem am_sl_n {ad q : Nat → Nat} {m : List Value} (h : am_sl ad q [] m) : m = [] := by
  cases m with
  | nil => rfl
  | cons v m => exact h.elim
theorem am_lk_c {h : am_H} {v : am_V} {l : List am_V} (h1 : am_vk h v) (h2 : am_lk2 h l) : am_lk2 h (v :: l) := fun w hw => by
  rcases List.mem_cons.mp hw with rfl | hw
  · exact h1
  · exact h2 w hw
theorem am_lk_h {h : am_H} {v : am_V} {l : List am_V} (h1 : am_lk2 h (v :: l)) : am_vk h v := h1 v List.mem_cons_self
theorem am_lk_t {h : am_H} {v : am_V} {l : List am_V} (h1 : am_lk2 h (v :: l)) : am_lk2 h l := fun w hw => h1 w (List.mem_cons_of_mem _ hw)
theorem am_nth_mem : ∀ {l : List am_V} {k : Nat} {v : am_V}, am_nth l k = some v → v ∈ l
  | [], _, _, h => by cases h
  | w :: _, 0, v, h => by cases h; exact List.mem_cons_self
  | w :: l, k + 1, v, h => List.mem_cons_of_mem _ (am_nth_mem (l := l) (k := k) h)
theorem am_set_lk {h : am_H} {w : am_V} (hw : am_vk h w) : ∀ {l : List am_V} {k : Nat}, am_lk2 h l → am_lk2 h (am_set l k w)
  | [], _, hl => hl
  | v :: l, 0, hl => am_lk_c hw (am_lk_t hl)
  | v :: l, k + 1, hl => am_lk_c (am_lk_h hl) (am_set_lk (l := l) (k := k) hw (am_lk_t hl))
section
variable {l : Launch} {sc : Nat × (Nat → Int)} {d : Nat} {M : am_M} {r : (am_V ⊕ Nat) × am_H}
/-- a step on the stack alone -/
theorem am_stk {pc pc1 : Nat} {ls st st1 : List am_V} {h : am_H} (k : am_P l sc d M pc1 ls st1 h r)
    (f : ∀ {p : Program} {e : Env} {R : Room} {s : State} {m : MethodId} {args : Array Value} {below : List Frame} {meth : Method} {c : Code} {H : Heap} {locs : List Loc} {cells slots : Nat} {Q : State → Prop} {G : va_G} {yc : Nat → ClassId} {q : Nat → Nat} {n0 : Nat} {ad : Nat → Nat} {lsA : Array Slot} {stA : List Value},
      am_Cx p l s m args meth c M G yc q n0 sc → am_in2 G yc n0 ad h H → va_S (am_A n0) s.heap H locs → lv_has lsA M.2.2.1 (am_kn ad q 0 ls) → am_lk2 h ls → am_lk2 h st → am_sl ad q st stA →
      (∀ stA1, am_sl ad q st1 stA1 → W p l e R s m args below meth c H locs cells slots Q (F0 m pc1 lsA stA1)) → W p l e R s m args below meth c H locs cells slots Q (F0 m pc lsA stA))
    (hv : am_hk h → am_lk2 h ls → am_lk2 h st → am_lk2 h st1) : am_P l sc d M pc ls st h r :=
  ⟨k.1, fun p e s m args below meth c G yc q n0 h0 ad0 C hm H locs ad lsA stA ha hw hV hl hs hlk hsk =>
    f C hw hV hl hlk hsk hs fun stA1 hs1 => k.2 p e s m args below meth c G yc q n0 h0 ad0 C hm H locs ad lsA stA1 ha hw hV hl hs1 hlk (hv hw.2.2 hlk hsk)⟩
/-- a step that stores a local -/
theorem am_loc {pc pc1 : Nat} {ls ls1 st st1 : List am_V} {h : am_H} (k : am_P l sc d M pc1 ls1 st1 h r)
    (f : ∀ {p : Program} {e : Env} {R : Room} {s : State} {m : MethodId} {args : Array Value} {below : List Frame} {meth : Method} {c : Code} {H : Heap} {locs : List Loc} {cells slots : Nat} {Q : State → Prop} {G : va_G} {yc : Nat → ClassId} {q : Nat → Nat} {n0 : Nat} {ad : Nat → Nat} {lsA : Array Slot} {stA : List Value},
      am_Cx p l s m args meth c M G yc q n0 sc → lv_has lsA M.2.2.1 (am_kn ad q 0 ls) → am_lk2 h ls → am_lk2 h st → am_sl ad q st stA →
      (∀ lsA1 stA1, lv_has lsA1 M.2.2.1 (am_kn ad q 0 ls1) → am_sl ad q st1 stA1 → W p l e R s m args below meth c H locs cells slots Q (F0 m pc1 lsA1 stA1)) → W p l e R s m args below meth c H locs cells slots Q (F0 m pc lsA stA))
    (hv : am_lk2 h ls → am_lk2 h st → am_lk2 h ls1 ∧ am_lk2 h st1) : am_P l sc d M pc ls st h r :=
  ⟨k.1, fun p e s m args below meth c G yc q n0 h0 ad0 C hm H locs ad lsA stA ha hw hV hl hs hlk hsk =>
    f C hl hlk hsk hs fun lsA1 stA1 hl1 hs1 => k.2 p e s m args below meth c G yc q n0 h0 ad0 C hm H locs ad lsA1 stA1 ha hw hV hl1 hs1 (hv hlk hsk).1 (hv hlk hsk).2⟩
/-- a step that writes to the heap -/
theorem am_wrt {pc pc1 : Nat} {ls st st1 : List am_V} {h h1 : am_H} (k : am_P l sc d M pc1 ls st1 h1 r) (he : hC h1 = hC h ∧ hS h1 = hS h ∧ hZ h1 = hZ h)
    (f : ∀ {p : Program} {e : Env} {R : Room} {s : State} {m : MethodId} {args : Array Value} {below : List Frame} {meth : Method} {c : Code} {H : Heap} {locs : List Loc} {cells slots : Nat} {Q : State → Prop} {G : va_G} {yc : Nat → ClassId} {q : Nat → Nat} {n0 : Nat} {ad : Nat → Nat} {lsA : Array Slot} {stA : List Value},
      am_Cx p l s m args meth c M G yc q n0 sc → am_in2 G yc n0 ad h H → va_S (am_A n0) s.heap H locs → lv_has lsA M.2.2.1 (am_kn ad q 0 ls) → am_lk2 h ls → am_lk2 h st → am_sl ad q st stA → R.frames = d + 10 → R.locals = (d + 1) * 60 + 200 →
      (∀ H1 locs1 stA1, am_in2 G yc n0 ad h1 H1 → va_S (am_A n0) s.heap H1 locs1 → am_sl ad q st1 stA1 → W p l e R s m args below meth c H1 locs1 cells slots Q (F0 m pc1 lsA stA1)) → W p l e R s m args below meth c H locs cells slots Q (F0 m pc lsA stA))
    (hv : am_lk2 h st → am_lk2 h st1) : am_P l sc d M pc ls st h r := by
  obtain ⟨e1, e2, e3⟩ := he
  refine ⟨⟨e1 ▸ k.1.1, e2 ▸ k.1.2.1, e3 ▸ k.1.2.2⟩, fun p e s m args below meth c G yc q n0 h0 ad0 C hm H locs ad lsA stA ha hw hV hl hs hlk hsk => ?_⟩
  refine f C hw hV hl hlk hsk hs rfl rfl fun H1 locs1 stA1 hw1 hV1 hs1 => ?_
  have h2 := k.2 p e s m args below meth c G yc q n0 h0 ad0 C ⟨by rw [e1]; exact hm.1, by rw [e2]; exact hm.2.1, by rw [e3]; exact hm.2.2⟩ H1 locs1 ad lsA stA1 ha hw1 hV1 hl hs1 (am_lk_up (Nat.le_of_eq e3.symm) hlk) (am_lk_up (Nat.le_of_eq e3.symm) (hv hsk))
  rw [e1, e2] at h2
  exact h2
/-- a step that makes n new places, of c cells and t slots -/
theorem am_mak {pc pc1 : Nat} {ls st st1 : List am_V} {h h1 : am_H} {nc ns : Nat} (k : am_P l sc d M pc1 ls st1 h1 r) (e1 : hC h1 = hC h + nc) (e2 : hS h1 = hS h + ns) (e3 : hZ h ≤ hZ h1)
    (f : ∀ {p : Program} {e : Env} {R : Room} {s : State} {m : MethodId} {args : Array Value} {below : List Frame} {meth : Method} {c : Code} {H : Heap} {locs : List Loc} {cells slots : Nat} {Q : State → Prop} {G : va_G} {yc : Nat → ClassId} {q : Nat → Nat} {n0 : Nat} {ad : Nat → Nat} {lsA : Array Slot} {stA : List Value},
      am_Cx p l s m args meth c M G yc q n0 sc → am_in2 G yc n0 ad h H → va_S (am_A n0) s.heap H locs → lv_has lsA M.2.2.1 (am_kn ad q 0 ls) → am_lk2 h ls → am_lk2 h st → am_sl ad q st stA → R.frames = d + 10 → R.locals = (d + 1) * 60 + 200 → cells + nc ≤ R.cells → slots + ns ≤ R.slots →
      (∀ ad1 H1 locs1 stA1, (∀ k, k < hZ h → ad1 k = ad k) → am_in2 G yc n0 ad1 h1 H1 → va_S (am_A n0) s.heap H1 locs1 → am_sl ad1 q st1 stA1 → W p l e R s m args below meth c H1 locs1 (cells + nc) (slots + ns) Q (F0 m pc1 lsA stA1)) → W p l e R s m args below meth c H locs cells slots Q (F0 m pc lsA stA))
    (hv : am_lk2 h st → am_lk2 h1 st1) : am_P l sc d M pc ls st h r := by
  have hm1 : am_mono h h1 := ⟨by omega, by omega, e3⟩
  refine ⟨hm1.tr k.1, fun p e s m args below meth c G yc q n0 h0 ad0 C hm H locs ad lsA stA ha hw hV hl hs hlk hsk => ?_⟩
  have k1 := k.1.1
  have k2 := k.1.2.1
  have m1 := hm.1
  have m2 := hm.2.1
  refine f C hw hV hl hlk hsk hs rfl rfl (by show _ ≤ hC r.2 - hC h0; omega) (by show _ ≤ hS r.2 - hS h0; omega) fun ad1 H1 locs1 stA1 ha1 hw1 hV1 hs1 => ?_
  have h2 := k.2 p e s m args below meth c G yc q n0 h0 ad0 C (hm.tr hm1) H1 locs1 ad1 lsA stA1 (fun j hj => (ha1 j (Nat.lt_of_lt_of_le hj hm.2.2)).trans (ha j hj)) hw1 hV1 (by rw [am_kn_up ha1 0 hlk]; exact hl) hs1 (am_lk_up e3 hlk) (hv hsk)
  rw [e1, e2, show hC h + nc - hC h0 = hC h - hC h0 + nc by omega, show hS h + ns - hS h0 = hS h - hS h0 + ns by omega] at h2
  exact h2
end
