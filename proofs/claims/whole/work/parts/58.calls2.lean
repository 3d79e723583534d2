section
variable {l : Launch} {sc : Nat × (Nat → Int)} {d : Nat} {M M2 : am_M} {r : (am_V ⊕ Nat) × am_H} {pc : Nat} {ls st : List am_V} {h h1 : am_H} {cd : List am_E} {hd : List (Nat × Nat × Nat × Nat)}
/-- what is pushed for an answer -/
def am_psh (rt : Option FieldType) (v : am_V) (st : List am_V) : List am_V := match rt with
  | none => st
  | some _ => v :: st
theorem am_psh_sl {ad q : Nat → Nat} {rt : Option FieldType} {v : am_V} {st : List am_V} {m : List Value} (hr : am_rt rt v) (hs : am_sl ad q st m) : am_sl ad q (am_psh rt v st) ((am_val ad q v).toList ++ m) := by
  rcases rt with _ | (_ | _ | _ | _ | _ | _ | _ | _ | _ | _)
  all_goals first
    | (rw [show v = Vx 0 from hr]; exact hs)
    | (obtain ⟨x, rfl⟩ := hr; exact ⟨rfl, hs⟩)
theorem am_psh_lk {h : am_H} {rt : Option FieldType} {v : am_V} {st : List am_V} (hv : am_vk h v) (hs : am_lk2 h st) : am_lk2 h (am_psh rt v st) := by
  cases rt with
  | none => exact hs
  | some t => exact am_lk_c hv hs
theorem am_Qc_F {G : va_G} {yc : Nat → ClassId} {q : Nat → Nat} {n0 : Nat} {ad : Nat → Nat} {rt : Option FieldType} {h : am_H} {r : (am_V ⊕ Nat) × am_H} {a : Array Value} : ∀ st o t, am_Qc G yc q n0 ad rt h r a st o t → va_F (am_A n0) st t := fun _ _ _ ⟨_, _, _, _, _, _, _, _, hF⟩ => hF
theorem am_XC_F {G : va_G} {yc : Nat → ClassId} {n0 : Nat} {ad : Nat → Nat} {h : am_H} {r : (am_V ⊕ Nat) × am_H} : ∀ E st t, am_XC G yc n0 ad h r E st t → va_F (am_A n0) st t := fun _ _ _ ⟨_, _, _, _, _, _, _, hF⟩ => hF
/-- the rest of a call, by what the callee comes to -/
theorem am_cont {rest0 : List am_V} {r1 : am_V ⊕ Nat} (hm1 : am_mono h h1) (hret : ∀ v, r1 = .inl v → am_rt M2.2.2.2.1 v → am_P l sc (d + 1) M (pc + 3) ls (am_psh M2.2.2.2.1 v rest0) h1 r)
    (hthr : ∀ e, r1 = .inr e → 1 ≤ e ∧ e ≤ 5 → (am_find hd pc e = none ∧ r = (.inr e, h1)) ∨ ∃ t pct, am_find hd pc e = some t ∧ (cd[t]?).map (fun e => e.1) = some pct ∧ am_P l sc (d + 1) M pct ls [Vx 0] h1 r)
    (hhr : am_hr M.1.cls cd hd M.2.2.2.2.2) (hxw : ∀ e, 1 ≤ e ∧ e ≤ 5 → Cond.castable (am_xn e) (am_xn e) ∈ lw_tbl) (hmr : am_mono h1 r.2)
    {p : Program} {e : Env} {s : State} {m : MethodId} {args : Array Value} {below : List Frame} {meth : Method} {c : Code} {G : va_G} {yc : Nat → ClassId} {q : Nat → Nat} {n0 : Nat} {h0 : am_H} {ad0 : Nat → Nat} (C : am_Cx p l s m args meth c M G yc q n0 sc) (hm : am_mono h0 h)
    {H : Heap} {locs : List Loc} {ad : Nat → Nat} {lsA : Array Slot} {stA restA : List Value} (ha : ∀ k, k < hZ h0 → ad k = ad0 k) (hV : va_S (am_A n0) s.heap H locs) (hl : lv_has lsA M.2.2.1 (am_kn ad q 0 ls)) (hs : am_sl ad q rest0 restA) (hlk : am_lk2 h ls) (hsk : am_lk2 h rest0) {a : Array Value}
    (hrun : vx_Run p l e (am_rm (d + 1) (hC r.2 - hC h0) (hS r.2 - hS h0)) s m args below meth c H locs (hC h - hC h0) (hS h - hS h0) (hC h1 - hC h) (hS h1 - hS h) (F0 m pc lsA stA) restA (am_Qc G yc q n0 ad M2.2.2.2.1 h (r1, h1) a) (am_XC G yc n0 ad h (r1, h1)) (am_A n0)) :
    W p l e (am_rm (d + 1) (hC r.2 - hC h0) (hS r.2 - hS h0)) s m args below meth c H locs (hC h - hC h0) (hS h - hS h0) (vx_MQ below (am_Qc G yc q n0 ad0 M.2.2.2.1 h0 r) (am_XC G yc n0 ad0 h0 r) args s (hC r.2 - hC h0) (hS r.2 - hS h0) (am_A n0)) (F0 m pc lsA stA) := by
  have c1 : hC h - hC h0 + (hC h1 - hC h) = hC h1 - hC h0 := by have := hm.1; have := hm1.1; omega
  have c2 : hS h - hS h0 + (hS h1 - hS h) = hS h1 - hS h0 := by have := hm.2.1; have := hm1.2.1; omega
  refine am_vx hrun hV am_Qc_F am_XC_F (fun v st₀ t H1 locs1 e0 e1 hq hV1 => ?_) (fun E ce q9 st₀ t H1 locs1 e0 e1 hx hV1 hce hcv hcl => ?_)
  · obtain ⟨v1, ad1, g1, g2, g3, g4, g5, g6, g7⟩ := hq
    cases g1
    cases g4
    have k := hret v1 rfl g2
    rw [e1] at g6
    rw [c1, c2]
    refine k.2 p e s m args below meth c G yc q n0 h0 ad0 C (hm.tr hm1) H1 locs1 ad1 lsA _ (fun j hj => (g5 j (Nat.lt_of_lt_of_le hj hm.2.2)).trans (ha j hj)) g6 hV1 (by rw [am_kn_up g5 0 hlk]; exact hl) (am_psh_sl g2 (am_sl_up g5 hsk hs)) (am_lk_up hm1.2.2 hlk) (am_psh_lk g3 (am_lk_up hm1.2.2 hsk))
  · obtain ⟨k, ad1, g1, gk, g2, g5, g6, g7⟩ := hx
    cases g1
    subst g2
    rw [e1] at g6
    obtain ⟨f1, f2⟩ := am_hr_find (pc := pc) gk hhr
    rw [c1, c2]
    have hnc : ∀ z, (covers z pc = false ∨ (z.catchType ≠ 0 ∧ ∃ a, Cond.classLink M.1.cls z.catchType (am_xn a) ∈ am_good ∧ am_xn k ≠ am_xn a)) → covers z pc = false ∨ (z.catchType ≠ 0 ∧ ∃ nm : String, (Cond.classLink M.1.cls z.catchType nm).before args s = true ∧ va_Nc (am_xn k) nm s) := by
      rintro z (hz | ⟨hz, a, hz1, hz2⟩)
      · exact Or.inl hz
      · exact Or.inr ⟨hz, am_xn a, C.2.2.2.2.1 _ hz1, C.ev.2.2.2.2.2.2.2.1 k a hz2⟩
    rcases hthr k rfl gk with ⟨t1, t2⟩ | ⟨t, pct, t1, t2, kk⟩
    · subst t2
      refine vx_outP (own := M.1.cls) (E := am_xn k) C.2.2.2.1 C.2.2.2.2.2.1 (fun z hz => hnc z (f1 t1 z (by rw [← C.2.2.2.2.2.2.2.2.1]; exact hz))) hce hcv hcl (fun T hT hA => ?_) hV1.2.2 (Nat.le_refl _) (Nat.le_refl _)
      exact ⟨k, ad1, rfl, gk, rfl, fun j hj => (g5 j (Nat.lt_of_lt_of_le hj hm.2.2)).trans (ha j hj), by rw [hT]; exact g6, hV1.F hT⟩
    · obtain ⟨pre, x, suf, w1, w2, w3, w4, w5, w6⟩ := f2 t t1
      refine vx_catch (own := M.1.cls) (name := am_xn k) (E := am_xn k) C.2.2.2.1 pre x suf (by rw [C.2.2.2.2.2.2.2.2.1]; exact w1) (fun z hz => hnc z (w2 z hz)) w3 w4 (C.2.2.2.2.1 _ w5) (va_Nw.use rfl (C.ev.2.2.2.2.2.2.2.2.2.1 _ (hxw k gk) rfl)) hce hcv hcl ?_
      have e9 : x.handlerPc = pct := Option.some.inj (w6.symm.trans t2)
      rw [e9]
      exact kk.2 p e s m args below meth c G yc q n0 h0 ad0 C (hm.tr hm1) H1 locs1 ad1 lsA [.ref q9] (fun j hj => (g5 j (Nat.lt_of_lt_of_le hj hm.2.2)).trans (ha j hj)) g6 hV1 (by rw [am_kn_up g5 0 hlk]; exact hl) ⟨Or.inr ⟨q9, rfl⟩, trivial⟩ (am_lk_up hm1.2.2 hlk) (am_lk_c trivial (fun v hv => nomatch hv))
end
