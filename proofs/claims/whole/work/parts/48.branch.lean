/-! STEPS: branches -/
section
variable {l : Launch} {sc : Nat × (Nat → Int)} {d : Nat} {M : am_M} {r : (am_V ⊕ Nat) × am_H} {pc : Nat} {ls st : List am_V} {h : am_H}
def am_ifd (c : ClassFile.Cond) (x y : Int) : Prop := match c with
  | .eq => x = y
  | .ne => ¬ x = y
  | .lt => x < y
  | .ge => ¬ x < y
  | .gt => y < x
  | .le => ¬ y < x
theorem am_if_or {c : ClassFile.Cond} {x y : Int} {a b : am_R} {r : (am_V ⊕ Nat) × am_H} (h : am_if c x y a b = some r) : (am_ifd c x y ∧ a = some r) ∨ (¬ am_ifd c x y ∧ b = some r) := by
  cases c <;> simp only [am_if, am_ifd] at h ⊢ <;> split at h
  · exact Or.inl ⟨by assumption, h⟩
  · exact Or.inr ⟨by assumption, h⟩
  · exact Or.inr ⟨fun e => e (by assumption), h⟩
  · exact Or.inl ⟨by assumption, h⟩
  · exact Or.inl ⟨by assumption, h⟩
  · exact Or.inr ⟨by assumption, h⟩
  · exact Or.inr ⟨fun e => e (by assumption), h⟩
  · exact Or.inl ⟨by assumption, h⟩
  · exact Or.inl ⟨by assumption, h⟩
  · exact Or.inr ⟨by assumption, h⟩
  · exact Or.inr ⟨fun e => e (by assumption), h⟩
  · exact Or.inl ⟨by assumption, h⟩
theorem am_s_icmp1 {c : ClassFile.Cond} {x y : Int} {off : Int} {tgt : Nat} (hd : decode M.2.1 pc = .ok (.if_icmp c off, 3)) (ht : (pc : Int) + off = (tgt : Int)) (hc : am_ifd c x y) (k : am_P l sc d M tgt ls st h r) : am_P l sc d M pc ls (Vi y :: Vi x :: st) h r := by
  refine am_stk k (fun C hw hV hl hlk hsk hs kk => ?_) (fun hh hl hs => am_lk_t (am_lk_t hs))
  obtain ⟨m1, rfl, hs1⟩ := am_sl_i hs
  obtain ⟨m2, rfl, hs2⟩ := am_sl_i hs1
  have hx : am_n32 x := am_lk_h (am_lk_t hsk)
  have hy : am_n32 y := am_lk_h hsk
  have E := am_eq hx hy
  have L := am_lt hx hy
  have G := am_lt hy hx
  have L2 := am_le hx hy
  have G2 := am_le hy hx
  cases c with
  | eq => exact lv_icmp_eq C.1 C.2.1 hd ht (fun _ => kk _ hs2) (fun hn => absurd (E.mpr hc) hn)
  | ne => exact lv_icmp_ne C.1 C.2.1 hd ht (fun _ => kk _ hs2) (fun hn => absurd (E.mp hn) hc)
  | lt => exact lv_icmp_lt C.1 C.2.1 hd ht (fun _ => kk _ hs2) (fun hn => absurd (L.mpr hc) hn)
  | ge => exact lv_icmp_ge C.1 C.2.1 hd ht (fun _ => kk _ hs2) (fun hn => absurd (G2.mpr (by simp only [am_ifd] at hc; omega)) hn)
  | gt => exact lv_icmp_gt C.1 C.2.1 hd ht (fun _ => kk _ hs2) (fun hn => absurd (G.mpr hc) hn)
  | le => exact lv_icmp_le C.1 C.2.1 hd ht (fun _ => kk _ hs2) (fun hn => absurd (L2.mpr (by simp only [am_ifd] at hc; omega)) hn)
theorem am_s_icmp0 {c : ClassFile.Cond} {x y : Int} {off : Int} {tgt : Nat} (hd : decode M.2.1 pc = .ok (.if_icmp c off, 3)) (ht : (pc : Int) + off = (tgt : Int)) (hc : ¬ am_ifd c x y) (k : am_P l sc d M (pc + 3) ls st h r) : am_P l sc d M pc ls (Vi y :: Vi x :: st) h r := by
  refine am_stk k (fun C hw hV hl hlk hsk hs kk => ?_) (fun hh hl hs => am_lk_t (am_lk_t hs))
  obtain ⟨m1, rfl, hs1⟩ := am_sl_i hs
  obtain ⟨m2, rfl, hs2⟩ := am_sl_i hs1
  have hx : am_n32 x := am_lk_h (am_lk_t hsk)
  have hy : am_n32 y := am_lk_h hsk
  have E := am_eq hx hy
  have L := am_lt hx hy
  have G := am_lt hy hx
  have L2 := am_le hx hy
  have G2 := am_le hy hx
  cases c with
  | eq => exact lv_icmp_eq C.1 C.2.1 hd ht (fun hn => absurd hn (fun e => hc (E.mp e))) (fun _ => kk _ hs2)
  | ne => exact lv_icmp_ne C.1 C.2.1 hd ht (fun hn => absurd hn (fun e => hc (fun q => e (E.mpr q)))) (fun _ => kk _ hs2)
  | lt => exact lv_icmp_lt C.1 C.2.1 hd ht (fun hn => absurd hn (fun e => hc (L.mp e))) (fun _ => kk _ hs2)
  | ge => exact lv_icmp_ge C.1 C.2.1 hd ht (fun hn => absurd hn (fun e => hc (by have := G2.mp e; simp only [am_ifd]; omega))) (fun _ => kk _ hs2)
  | gt => exact lv_icmp_gt C.1 C.2.1 hd ht (fun hn => absurd hn (fun e => hc (G.mp e))) (fun _ => kk _ hs2)
  | le => exact lv_icmp_le C.1 C.2.1 hd ht (fun hn => absurd hn (fun e => hc (by have := L2.mp e; simp only [am_ifd]; omega))) (fun _ => kk _ hs2)
theorem am_s_if1 {c : ClassFile.Cond} {x : Int} {off : Int} {tgt : Nat} (hd : decode M.2.1 pc = .ok (.ifCond c off, 3)) (ht : (pc : Int) + off = (tgt : Int)) (hc : am_ifd c x 0) (k : am_P l sc d M tgt ls st h r) : am_P l sc d M pc ls (Vi x :: st) h r := by
  refine am_stk k (fun C hw hV hl hlk hsk hs kk => ?_) (fun hh hl hs => am_lk_t hs)
  obtain ⟨m1, rfl, hs1⟩ := am_sl_i hs
  have hx : am_n32 x := am_lk_h hsk
  have hy : am_n32 0 := by unfold am_n32; omega
  have E := am_eq hx hy
  have L := am_lt hx hy
  have G := am_lt hy hx
  have L2 := am_le hx hy
  have G2 := am_le hy hx
  cases c with
  | eq => exact lv_if_eq C.1 C.2.1 hd ht (fun _ => kk _ hs1) (fun hn => absurd (E.mpr hc) hn)
  | ne => exact lv_if_ne C.1 C.2.1 hd ht (fun _ => kk _ hs1) (fun hn => absurd (E.mp hn) hc)
  | lt => exact lv_if_lt C.1 C.2.1 hd ht (fun _ => kk _ hs1) (fun hn => absurd (L.mpr hc) hn)
  | ge => exact lv_if_ge C.1 C.2.1 hd ht (fun _ => kk _ hs1) (fun hn => absurd (G2.mpr (by simp only [am_ifd] at hc; omega)) hn)
  | gt => exact lv_if_gt C.1 C.2.1 hd ht (fun _ => kk _ hs1) (fun hn => absurd (G.mpr hc) hn)
  | le => exact lv_if_le C.1 C.2.1 hd ht (fun _ => kk _ hs1) (fun hn => absurd (L2.mpr (by simp only [am_ifd] at hc; omega)) hn)
theorem am_s_if0 {c : ClassFile.Cond} {x : Int} {off : Int} {tgt : Nat} (hd : decode M.2.1 pc = .ok (.ifCond c off, 3)) (ht : (pc : Int) + off = (tgt : Int)) (hc : ¬ am_ifd c x 0) (k : am_P l sc d M (pc + 3) ls st h r) : am_P l sc d M pc ls (Vi x :: st) h r := by
  refine am_stk k (fun C hw hV hl hlk hsk hs kk => ?_) (fun hh hl hs => am_lk_t hs)
  obtain ⟨m1, rfl, hs1⟩ := am_sl_i hs
  have hx : am_n32 x := am_lk_h hsk
  have hy : am_n32 0 := by unfold am_n32; omega
  have E := am_eq hx hy
  have L := am_lt hx hy
  have G := am_lt hy hx
  have L2 := am_le hx hy
  have G2 := am_le hy hx
  cases c with
  | eq => exact lv_if_eq C.1 C.2.1 hd ht (fun hn => absurd hn (fun e => hc (E.mp e))) (fun _ => kk _ hs1)
  | ne => exact lv_if_ne C.1 C.2.1 hd ht (fun hn => absurd hn (fun e => hc (fun q => e (E.mpr q)))) (fun _ => kk _ hs1)
  | lt => exact lv_if_lt C.1 C.2.1 hd ht (fun hn => absurd hn (fun e => hc (L.mp e))) (fun _ => kk _ hs1)
  | ge => exact lv_if_ge C.1 C.2.1 hd ht (fun hn => absurd hn (fun e => hc (by have := G2.mp e; simp only [am_ifd]; omega))) (fun _ => kk _ hs1)
  | gt => exact lv_if_gt C.1 C.2.1 hd ht (fun hn => absurd hn (fun e => hc (G.mp e))) (fun _ => kk _ hs1)
  | le => exact lv_if_le C.1 C.2.1 hd ht (fun hn => absurd hn (fun e => hc (by have := L2.mp e; simp only [am_ifd]; omega))) (fun _ => kk _ hs1)
theorem am_s_goto {off : Int} {tgt : Nat} (hd : decode M.2.1 pc = .ok (.goto off, 3)) (ht : (pc : Int) + off = (tgt : Int)) (k : am_P l sc d M tgt ls st h r) : am_P l sc d M pc ls st h r :=
  am_stk k (fun C hw hV hl hlk hsk hs kk => lv_goto C.1 C.2.1 hd ht (kk _ hs)) (fun _ _ hs => hs)
theorem am_s_ifnnN {off : Int} (hd : decode M.2.1 pc = .ok (.ifnonnull off, 3)) (k : am_P l sc d M (pc + 3) ls st h r) : am_P l sc d M pc ls (Vr none :: st) h r := by
  refine am_stk k (fun C hw hV hl hlk hsk hs kk => ?_) (fun _ _ hs => am_lk_t hs)
  obtain ⟨m1, rfl, hs1⟩ := am_sl_r hs
  exact lv_ifnonnullN C.1 C.2.1 hd (kk _ hs1)
theorem am_s_ifnnS {off : Int} {tgt a : Nat} (hd : decode M.2.1 pc = .ok (.ifnonnull off, 3)) (ht : (pc : Int) + off = (tgt : Int)) (k : am_P l sc d M tgt ls st h r) : am_P l sc d M pc ls (Vr (some a) :: st) h r := by
  refine am_stk k (fun C hw hV hl hlk hsk hs kk => ?_) (fun _ _ hs => am_lk_t hs)
  obtain ⟨m1, rfl, hs1⟩ := am_sl_r hs
  exact lv_ifnonnull C.1 C.2.1 hd ht (kk _ hs1)
theorem am_s_tabIn {dflt lo hi : Int} {offs : Array Int} {len : Nat} {x off : Int} {tgt : Nat} (hd : decode M.2.1 pc = .ok (.tableswitch dflt lo hi offs, len)) (h1 : ¬ x < lo) (h2 : ¬ hi < x) (ho : offs[(x - lo).toNat]? = some off) (ht : (pc : Int) + off = (tgt : Int)) (k : am_P l sc d M tgt ls st h r) : am_P l sc d M pc ls (Vi x :: st) h r := by
  refine am_stk k (fun C hw hV hl hlk hsk hs kk => ?_) (fun _ _ hs => am_lk_t hs)
  obtain ⟨m1, rfl, hs1⟩ := am_sl_i hs
  have e := am_toInt (show am_n32 x from am_lk_h hsk)
  exact lv_tableIn C.1 C.2.1 hd (by rw [e]; exact h1) (by rw [e]; exact h2) (by rw [e]; exact ho) ht (kk _ hs1)
theorem am_s_tabOut {dflt lo hi : Int} {offs : Array Int} {len : Nat} {x : Int} {tgt : Nat} (hd : decode M.2.1 pc = .ok (.tableswitch dflt lo hi offs, len)) (h1 : x < lo ∨ hi < x) (ht : (pc : Int) + dflt = (tgt : Int)) (k : am_P l sc d M tgt ls st h r) : am_P l sc d M pc ls (Vi x :: st) h r := by
  refine am_stk k (fun C hw hV hl hlk hsk hs kk => ?_) (fun _ _ hs => am_lk_t hs)
  obtain ⟨m1, rfl, hs1⟩ := am_sl_i hs
  have e := am_toInt (show am_n32 x from am_lk_h hsk)
  exact lv_tableOut C.1 C.2.1 hd (by rw [e]; exact h1) ht (kk _ hs1)
theorem am_s_look {dflt : Int} {ps : Array (Int × Int)} {len : Nat} {x off : Int} {tgt : Nat} (hd : decode M.2.1 pc = .ok (.lookupswitch dflt ps, len)) (hp : (ps.toList.zip (ps.toList.drop 1)).all (fun (a, next) => a.1 < next.1) = true) (ho : Op.lookupswitch.offset ps.toList dflt x = off) (ht : (pc : Int) + off = (tgt : Int)) (k : am_P l sc d M tgt ls st h r) : am_P l sc d M pc ls (Vi x :: st) h r := by
  refine am_stk k (fun C hw hV hl hlk hsk hs kk => ?_) (fun _ _ hs => am_lk_t hs)
  obtain ⟨m1, rfl, hs1⟩ := am_sl_i hs
  have e := am_toInt (show am_n32 x from am_lk_h hsk)
  exact lv_lookup C.1 C.2.1 hd hp (by rw [e]; exact ho) ht (kk _ hs1)
end
