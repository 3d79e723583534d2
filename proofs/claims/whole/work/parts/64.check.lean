/-! EACH ENTRY AGAINST THE BYTES AND THE TABLES' WORDS -/
noncomputable def am_d (M : am_M) (pc : Nat) (I : Instr) (k : Nat) : Bool := decide (decode M.2.1 pc = .ok (I, k))
def am_nx (cd : List am_E) (i pc : Nat) : Bool := match cd[i + 1]? with
  | some e => e.1 == pc
  | none => false
def am_tg (cd : List am_E) (t pc : Int) : Bool := match cd[t.toNat]? with
  | some e => decide ((e.1 : Int) = pc)
  | none => false
def am_b32 (x : Int) : Bool := decide (-2147483648 ≤ x) && decide (x ≤ 2147483647)
def am_cst2 (M : am_M) (k : Nat) (xs : List Int) : Bool := if am_arg xs 0 = 0 then am_b32 (am_arg xs 1) && am_has (am_arg xs 2).toNat (.constant M.1.cls k (Int32.ofInt (am_arg xs 1))) else (decide (2 ≤ (am_arg xs 1).toNat) && decide ((am_arg xs 1).toNat < 25)) && am_hasT (am_arg xs 2).toNat (.stringRef M.1.cls k (am_ltx.getD ((am_arg xs 1).toNat - 2) ""))
def am_fld (M : am_M) (k : Nat) (xs : List Int) (ir : Bool) : Bool := match am_cl[(am_arg xs 1).toNat]? with
  | some (Cn, T, N) => (decide ((am_arg xs 2).toNat < N) && decide (am_ir (am_arg xs 1).toNat (am_arg xs 2).toNat = ir)) && am_has (am_arg xs 3).toNat (.fieldLink M.1.cls k Cn (T (am_arg xs 2).toNat).2.1 (T (am_arg xs 2).toNat).2.2.1)
  | none => false
def am_mayB (M : am_M) (xs : List Int) : Bool := match am_cl[(am_arg xs 1).toNat]? with
  | some (_, T, _) => decide ((T (am_arg xs 2).toNat).2.2.2 = false) || (decide ((T (am_arg xs 2).toNat).2.2.2 = true) && (decide (M.1.name = "<init>") && decide ((T (am_arg xs 2).toNat).1 = M.1.cls)))
  | none => false
def am_rtk (rt : Option FieldType) : Int := match rt with
  | none => 0
  | some .int => 1
  | some .boolean => 1
  | some .char => 1
  | some .byte => 1
  | some (.object _) => 2
  | some (.array _) => 2
  | _ => 9
/-- a call: kd 0 invokestatic, 1 invokevirtual, 2 invokespecial -/
noncomputable def am_cki (M : am_M) (kd k : Nat) (xs : List Int) : Bool := match (am_arg xs 0).toNat with
  | 0 => (am_has (am_arg xs 5).toNat (.methodLink M.1.cls k (am_mt (am_arg xs 1).toNat).1) && am_mck (am_mt (am_arg xs 1).toNat) (am_mx (am_arg xs 1).toNat)) && (decide (am_arg xs 3 = am_rtk (am_mt (am_arg xs 1).toNat).2.2.2.1) &&
      (if (am_arg xs 4).toNat = 0 then (decide (kd = 0) && decide ((am_mx (am_arg xs 1).toNat).2.2.1 = 0)) && decide ((am_arg xs 2).toNat = (am_mt (am_arg xs 1).toNat).2.2.2.2.1)
       else ((decide (kd = 1) && decide ((am_mx (am_arg xs 1).toNat).2.2.1 = 1)) && decide ((am_arg xs 2).toNat = (am_mt (am_arg xs 1).toNat).2.2.2.2.1 + 1)) && decide ((am_cl[(am_arg xs 4).toNat - 1]?).map (fun z => z.1) = some (am_mt (am_arg xs 1).toNat).1.cls)))
  | 1 => decide (kd = 2) && am_has (am_arg xs 5).toNat (.methodLink M.1.cls k Lib.objectInit)
  | 2 => decide (kd = 0) && am_has (am_arg xs 5).toNat (.methodLink M.1.cls k arraycopyName)
  | 3 => decide (kd = 1) && am_has (am_arg xs 5).toNat (.methodLink M.1.cls k ⟨"[I", "clone", "()Ljava/lang/Object;"⟩)
  | 4 => ((am_has (am_arg xs 5).toNat (.methodLink M.1.cls k (am_mt (am_arg xs 1).toNat).1) && am_mck (am_mt (am_arg xs 1).toNat) (am_mx (am_arg xs 1).toNat)) && (decide (am_arg xs 3 = am_rtk (am_mt (am_arg xs 1).toNat).2.2.2.1) &&
       (((decide (kd = 1) && decide ((am_mx (am_arg xs 1).toNat).2.2.1 = 1)) && decide ((am_arg xs 2).toNat = (am_mt (am_arg xs 1).toNat).2.2.2.2.1 + 1)) && decide ((am_mt (am_arg xs 1).toNat).1.cls = "java/lang/String"))))
  | 5 => (am_hasT (am_arg xs 5).toNat (.methodLinkNest M.1.cls k (am_mt (am_arg xs 1).toNat).1 "OldFences") && am_mck (am_mt (am_arg xs 1).toNat) (am_mx (am_arg xs 1).toNat)) && (((decide (kd = 2) && decide ((am_mx (am_arg xs 1).toNat).2.2.1 = 2)) && decide ((am_arg xs 2).toNat = (am_mt (am_arg xs 1).toNat).2.2.2.2.1 + 1)) && decide ((am_cl[(am_arg xs 4).toNat - 1]?).map (fun z => z.1) = some (am_mt (am_arg xs 1).toNat).1.cls))
  | 6 => (am_has (am_arg xs 5).toNat (.methodLink M.1.cls k (am_mt (am_arg xs 1).toNat).1) && am_mck (am_mt (am_arg xs 1).toNat) (am_mx (am_arg xs 1).toNat)) && (((decide (kd = 2) && decide ((am_mx (am_arg xs 1).toNat).2.2.1 = 2)) && decide ((am_arg xs 2).toNat = (am_mt (am_arg xs 1).toNat).2.2.2.2.1 + 1)) && decide ((am_cl[(am_arg xs 4).toNat - 1]?).map (fun z => z.1) = some (am_mt (am_arg xs 1).toNat).1.cls))
  | _ => false
/-- the ways of a switch -/
def am_tgs (cd : List am_E) (xs : List Int) (pc : Nat) : List Int → Nat → Bool
  | [], _ => true
  | off :: l, j => am_tg cd (am_arg xs (2 * j + 1)) (pc + off) && am_tgs cd xs pc l (j + 1)
noncomputable def am_ck (M : am_M) (cd : List am_E) (i : Nat) (e : am_E) : Bool := match e with
  | (pc, len, I, xs) => match I with
    | .nop => am_tg cd (am_arg xs 1) pc
    | .iconst n => (am_d M pc (.iconst n) 1 && am_nx cd i (pc + 1)) && am_b32 n
    | .bipush n => (am_d M pc (.bipush n) 2 && am_nx cd i (pc + 2)) && (decide (-128 ≤ n) && decide (n ≤ 127))
    | .sipush n => (am_d M pc (.sipush n) 3 && am_nx cd i (pc + 3)) && (decide (-32768 ≤ n) && decide (n ≤ 32767))
    | .ldc k => (am_d M pc (.ldc k) 2 && am_nx cd i (pc + 2)) && am_cst2 M k xs
    | .ldc_w k => (am_d M pc (.ldc_w k) 3 && am_nx cd i (pc + 3)) && am_cst2 M k xs
    | .lconst n => am_d M pc (.lconst n) 1 && am_nx cd i (pc + 1)
    | .aconst_null => am_d M pc .aconst_null 1 && am_nx cd i (pc + 1)
    | .iload_n k => am_d M pc (.iload_n k) 1 && am_nx cd i (pc + 1)
    | .iload k => am_d M pc (.iload k) 2 && am_nx cd i (pc + 2)
    | .aload_n k => am_d M pc (.aload_n k) 1 && am_nx cd i (pc + 1)
    | .aload k => am_d M pc (.aload k) 2 && am_nx cd i (pc + 2)
    | .istore_n k => (am_d M pc (.istore_n k) 1 && am_nx cd i (pc + 1)) && decide ((k : Nat) < M.2.2.1)
    | .istore k => (am_d M pc (.istore k) 2 && am_nx cd i (pc + 2)) && decide (k < M.2.2.1)
    | .astore_n k => (am_d M pc (.astore_n k) 1 && am_nx cd i (pc + 1)) && decide ((k : Nat) < M.2.2.1)
    | .astore k => (am_d M pc (.astore k) 2 && am_nx cd i (pc + 2)) && decide (k < M.2.2.1)
    | .iinc k n => (am_d M pc (.iinc k n) 3 && am_nx cd i (pc + 3)) && decide (k < M.2.2.1)
    | .iadd => am_d M pc .iadd 1 && am_nx cd i (pc + 1)
    | .isub => am_d M pc .isub 1 && am_nx cd i (pc + 1)
    | .imul => am_d M pc .imul 1 && am_nx cd i (pc + 1)
    | .idiv => am_d M pc .idiv 1 && am_nx cd i (pc + 1)
    | .irem => am_d M pc .irem 1 && am_nx cd i (pc + 1)
    | .iand => am_d M pc .iand 1 && am_nx cd i (pc + 1)
    | .ior => am_d M pc .ior 1 && am_nx cd i (pc + 1)
    | .ixor => am_d M pc .ixor 1 && am_nx cd i (pc + 1)
    | .ishl => am_d M pc .ishl 1 && am_nx cd i (pc + 1)
    | .ishr => am_d M pc .ishr 1 && am_nx cd i (pc + 1)
    | .iushr => am_d M pc .iushr 1 && am_nx cd i (pc + 1)
    | .ineg => am_d M pc .ineg 1 && am_nx cd i (pc + 1)
    | .i2b => am_d M pc .i2b 1 && am_nx cd i (pc + 1)
    | .i2c => am_d M pc .i2c 1 && am_nx cd i (pc + 1)
    | .i2l => am_d M pc .i2l 1 && am_nx cd i (pc + 1)
    | .lcmp => am_d M pc .lcmp 1 && am_nx cd i (pc + 1)
    | .dup => am_d M pc .dup 1 && am_nx cd i (pc + 1)
    | .dup2 => am_d M pc .dup2 1 && am_nx cd i (pc + 1)
    | .pop => am_d M pc .pop 1 && am_nx cd i (pc + 1)
    | .ifCond c off => (am_d M pc (.ifCond c off) 3 && am_nx cd i (pc + 3)) && am_tg cd (am_arg xs 1) (pc + off)
    | .if_icmp c off => (am_d M pc (.if_icmp c off) 3 && am_nx cd i (pc + 3)) && am_tg cd (am_arg xs 1) (pc + off)
    | .ifnull _ => false
    | .ifnonnull off => (am_d M pc (.ifnonnull off) 3 && am_nx cd i (pc + 3)) && am_tg cd (am_arg xs 1) (pc + off)
    | .goto off => am_d M pc (.goto off) 3 && am_tg cd (am_arg xs 1) (pc + off)
    | .tableswitch dflt lo hi offs => (am_d M pc (.tableswitch dflt lo hi offs) len && am_tg cd (am_arg xs 1) (pc + dflt)) && ((decide (lo ≤ hi + 1) && decide ((offs.toList.length : Int) = hi + 1 - lo)) && am_tgs cd xs pc offs.toList 1)
    | .lookupswitch dflt ps => (am_d M pc (.lookupswitch dflt ps) len && am_tg cd (am_arg xs 1) (pc + dflt)) && ((ps.toList.zip (ps.toList.drop 1)).all (fun z => decide (z.1.1 < z.2.1)) && am_tgs cd xs pc (ps.toList.map (fun z => z.2)) 1)
    | .iaload => am_d M pc .iaload 1 && am_nx cd i (pc + 1)
    | .laload => am_d M pc .laload 1 && am_nx cd i (pc + 1)
    | .baload => am_d M pc .baload 1 && am_nx cd i (pc + 1)
    | .aaload => (am_d M pc .aaload 1 && am_nx cd i (pc + 1)) && (decide ((am_arg xs 0).toNat = 5) || decide ((am_arg xs 0).toNat = 6))
    | .iastore => am_d M pc .iastore 1 && am_nx cd i (pc + 1)
    | .lastore => am_d M pc .lastore 1 && am_nx cd i (pc + 1)
    | .bastore => am_d M pc .bastore 1 && am_nx cd i (pc + 1)
    | .aastore => (am_d M pc .aastore 1 && am_nx cd i (pc + 1)) && decide ((am_arg xs 0).toNat = 0)
    | .arraylength => am_d M pc .arraylength 1 && am_nx cd i (pc + 1)
    | .getfield k => (am_d M pc (.getfield k) 3 && am_nx cd i (pc + 3)) && (match (am_arg xs 0).toNat with
      | 0 => am_fld M k xs false
      | 1 => am_fld M k xs true
      | 2 => am_has (am_arg xs 3).toNat (.fieldLink M.1.cls k "java/lang/String" "value" "[B")
      | 3 => am_has (am_arg xs 3).toNat (.fieldLink M.1.cls k "java/lang/String" "coder" "B")
      | _ => false)
    | .putfield k => (am_d M pc (.putfield k) 3 && am_nx cd i (pc + 3)) && ((match (am_arg xs 0).toNat with
      | 0 => am_fld M k xs false && decide (am_ft (am_arg xs 1).toNat (am_arg xs 2).toNat = .int)
      | 1 => am_fld M k xs false && decide (am_ft (am_arg xs 1).toNat (am_arg xs 2).toNat = .boolean)
      | 2 => am_fld M k xs true
      | _ => false) && am_mayB M xs)
    | .getstatic k => (am_d M pc (.getstatic k) 3 && am_nx cd i (pc + 3)) && (if am_arg xs 0 = 0 then am_has (am_arg xs 1).toNat (.fieldLink M.1.cls k "java/lang/String" "COMPACT_STRINGS" "Z") else am_has (am_arg xs 1).toNat (.fieldLink M.1.cls k "jdk/internal/util/Preconditions" "SIOOBE_FORMATTER" "Ljava/util/function/BiFunction;"))
    | .new k => if am_arg xs 0 = 0 then (am_d M pc (.new k) 3 && am_nx cd i (pc + 3)) && (match am_cl[(am_arg xs 1).toNat]? with
        | some (Cn, _, N) => (decide ((am_arg xs 2).toNat = N) && am_clk (am_arg xs 1).toNat) && am_has (am_arg xs 3).toNat (.classLink M.1.cls k Cn)
        | none => false)
      else (am_d M pc (.new k) 3 && am_has (am_arg xs 2).toNat (.classLink M.1.cls k (am_xn (am_arg xs 1).toNat))) && ((decide (M.1.cls = "OldFences") && decide (M.2.2.2.2.2 = [])) && ((am_d M (pc + 3) .dup 1 && am_d M (pc + 7) .athrow 1) && (([(1, 114), (2, 120), (3, 386), (4, 145), (5, 249)] : List (Nat × Nat)).any (fun z => decide (z.1 = (am_arg xs 1).toNat) && am_d M (pc + 4) (.invokespecial z.2) 3))))
    | .newarray aty => (am_d M pc (.newarray aty) 2 && am_nx cd i (pc + 2)) && (decide (((am_arg xs 0).toNat, aty) = (1, ArrayType.int)) || (decide (((am_arg xs 0).toNat, aty) = (2, ArrayType.boolean)) || (decide (((am_arg xs 0).toNat, aty) = (3, ArrayType.byte)) || decide (((am_arg xs 0).toNat, aty) = (4, ArrayType.long)))))
    | .anewarray k => (am_d M pc (.anewarray k) 3 && am_nx cd i (pc + 3)) && am_has (am_arg xs 1).toNat (.classLink M.1.cls k "OldFences$County")
    | .multianewarray k n => ((am_d M pc (.multianewarray k 2) 4 && am_nx cd i (pc + 4)) && decide (n = 2)) && am_has (am_arg xs 1).toNat (.classLink M.1.cls k "[[I")
    | .checkcast k => (am_d M pc (.checkcast k) 3 && am_nx cd i (pc + 3)) && am_has (am_arg xs 1).toNat (.classLink M.1.cls k "[I")
    | .invokestatic k => am_d M pc (.invokestatic k) 3 && (decide ((am_arg xs 0).toNat = 7) || (am_nx cd i (pc + 3) && am_cki M 0 k xs))
    | .invokevirtual k => (am_d M pc (.invokevirtual k) 3 && am_nx cd i (pc + 3)) && am_cki M 1 k xs
    | .invokespecial k => decide ((am_arg xs 0).toNat = 7) || ((am_d M pc (.invokespecial k) 3 && am_nx cd i (pc + 3)) && am_cki M 2 k xs)
    | .ireturn => am_d M pc .ireturn 1 && (match am_arg xs 0, M.2.2.2.1 with
      | 0, some .int => true
      | 1, some .boolean => true
      | 2, some .char => true
      | 3, some .byte => true
      | _, _ => false)
    | .areturn => am_d M pc .areturn 1 && decide (am_rtk M.2.2.2.1 = 2)
    | .return_ => am_d M pc .return_ 1 && decide (M.2.2.2.1 = none)
    | _ => true
noncomputable def am_cka (M : am_M) (cd : List am_E) : List am_E → Nat → Bool
  | [], _ => true
  | e :: l, i => am_ck M cd i e && am_cka M cd l (i + 1)
theorem am_cka_at {M : am_M} {cd : List am_E} : ∀ {l : List am_E} {j : Nat}, am_cka M cd l j = true → ∀ i e, l[i]? = some e → am_ck M cd (j + i) e = true
  | [], _, _, i, e, h => by simp at h
  | e0 :: l, j, h, i, e, hi => by
    simp only [am_cka, Bool.and_eq_true] at h
    cases i with
    | zero => cases hi; exact h.1
    | succ i =>
      have := am_cka_at h.2 i e hi
      rw [show j + (i + 1) = j + 1 + i by omega]
      exact this
/-- the handlers -/
def am_hrB (own : String) (cd : List am_E) (x : List Nat) : List (Nat × Nat × Nat × Nat) → List (Nat × Nat × Nat × Nat) → Bool
  | [], [] => true
  | u :: hd, y :: hh => ((decide (u.1 = y.1) && decide (u.2.1 = y.2.1)) && ((decide ((cd[u.2.2.2]?).map (fun e => e.1) = some y.2.2.1) && decide (y.2.2.2 ≠ 0)) && ((decide (1 ≤ u.2.2.1) && decide (u.2.2.1 ≤ 5)) && am_has (x.headD 0) (.classLink own y.2.2.2 (am_xn u.2.2.1))))) && am_hrB own cd x.tail hd hh
  | _, _ => false
theorem am_hrB_ok {own : String} {cd : List am_E} : ∀ {x : List Nat} {hd hh : List (Nat × Nat × Nat × Nat)}, am_hrB own cd x hd hh = true → am_hr own cd hd hh
  | _, [], [], _ => trivial
  | _, [], _ :: _, h => by simp [am_hrB] at h
  | _, _ :: _, [], h => by simp [am_hrB] at h
  | x, u :: hd, y :: hh, h => by
    simp only [am_hrB, Bool.and_eq_true, decide_eq_true_eq] at h
    exact ⟨⟨h.1.1.1, h.1.1.2, h.1.2.1.1, h.1.2.1.2, h.1.2.2.1, am_has_in h.1.2.2.2⟩, am_hrB_ok h.2⟩
/-- a method as a whole -/
noncomputable def am_ckm (m : Nat) (x : List Nat) : Bool := ((decide ((am_at m).2.2 = (am_mt m).2.2.1) && decide (((am_at m).1[0]?).map (fun e => e.1) = some 0)) && am_hrB (am_mt m).1.cls (am_at m).1 x (am_at m).2.1 (am_mt m).2.2.2.2.2) && am_cka (am_mt m) (am_at m).1 (am_at m).1 0
