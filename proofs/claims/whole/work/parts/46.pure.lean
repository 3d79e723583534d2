/-! STEPS: constants, locals, arithmetic -/
section
variable {l : Launch} {sc : Nat × (Nat → Int)} {d : Nat} {M : am_M} {r : (am_V ⊕ Nat) × am_H} {pc : Nat} {ls st : List am_V} {h : am_H}
theorem am_i8 {n : Int} (h1 : -128 ≤ n) (h2 : n ≤ 127) : (Int8.ofInt n).toInt32 = Int32.ofInt n := by
  apply Int32.toInt_inj.mp
  rw [Int8.toInt_toInt32, am_toInt (by unfold am_n32; omega), Int8.toInt_ofInt_of_le (by omega) (by omega)]
theorem am_i16 {n : Int} (h1 : -32768 ≤ n) (h2 : n ≤ 32767) : (Int16.ofInt n).toInt32 = Int32.ofInt n := by
  apply Int32.toInt_inj.mp
  rw [Int16.toInt_toInt32, am_toInt (by unfold am_n32; omega), Int16.toInt_ofInt_of_le (by omega) (by omega)]
theorem am_i64 {x : Int} (hx : am_n32 x) : (Int32.ofInt x).toInt64 = Int64.ofInt x := by
  apply Int64.toInt_inj.mp
  have h1 := hx.1
  have h2 := hx.2
  rw [Int32.toInt_toInt64, am_toInt hx, Int64.toInt_ofInt_of_le (by omega) (by omega)]
theorem am_idiv {x y : Int} (hx : am_n32 x) (hy : am_n32 y) : Int32.ofInt x / Int32.ofInt y = Int32.ofInt (w32 (x.tdiv y)) := by
  apply Int32.toInt_inj.mp
  rw [am_ofw, Int32.toInt_div, am_toInt hx, am_toInt hy, Int32.toInt_ofInt]
theorem am_tmod_n {x y : Int} (hx : am_n32 x) (hy : am_n32 y) (h0 : ¬ y = 0) : am_n32 (x.tmod y) := by
  have h1 := hy.1
  have h2 := hy.2
  rcases Int.lt_or_lt_of_ne h0 with hp | hp
  · have a1 := tmod_bounds (a := x) (M := -y) (by omega)
    rw [Int.tmod_neg] at a1
    constructor <;> omega
  · have a1 := tmod_bounds (a := x) (M := y) hp
    constructor <;> omega
theorem am_irem {x y : Int} (hx : am_n32 x) (hy : am_n32 y) (h0 : ¬ y = 0) : Int32.ofInt x - Int32.ofInt x / Int32.ofInt y * Int32.ofInt y = Int32.ofInt (x.tmod y) := by
  apply Int32.toInt_inj.mp
  rw [rem_toInt, am_toInt hx, am_toInt hy, am_toInt (am_tmod_n hx hy h0)]
theorem am_ne0 {y : Int} (hy : am_n32 y) (h0 : ¬ y = 0) : ¬ Int32.ofInt y = 0 := fun e => h0 ((am_eq hy (y := 0) (by unfold am_n32; omega)).mp e)
theorem am_s_iconst {n : Int} (hn : am_n32 n) (hd : decode M.2.1 pc = .ok (.iconst n, 1)) (k : am_P l sc d M (pc + 1) ls (Vi n :: st) h r) : am_P l sc d M pc ls (st) h r := by
  refine am_stk k (fun C hw hV hl hlk hsk hs kk => ?_) (fun hh hl hs => ?_)
  · exact lv_iconst C.1 C.2.1 hd rfl (kk _ ⟨rfl, hs⟩)
  · exact am_lk_c hn hs
theorem am_s_bipush {n : Int} (h1 : -128 ≤ n) (h2 : n ≤ 127) (hd : decode M.2.1 pc = .ok (.bipush n, 2)) (k : am_P l sc d M (pc + 2) ls (Vi n :: st) h r) : am_P l sc d M pc ls (st) h r := by
  refine am_stk k (fun C hw hV hl hlk hsk hs kk => ?_) (fun hh hl hs => ?_)
  · exact lv_bipush C.1 C.2.1 hd (am_i8 h1 h2) (kk _ ⟨rfl, hs⟩)
  · exact am_lk_c (show am_n32 n by unfold am_n32; omega) hs
theorem am_s_sipush {n : Int} (h1 : -32768 ≤ n) (h2 : n ≤ 32767) (hd : decode M.2.1 pc = .ok (.sipush n, 3)) (k : am_P l sc d M (pc + 3) ls (Vi n :: st) h r) : am_P l sc d M pc ls (st) h r := by
  refine am_stk k (fun C hw hV hl hlk hsk hs kk => ?_) (fun hh hl hs => ?_)
  · exact lv_sipush C.1 C.2.1 hd (am_i16 h1 h2) (kk _ ⟨rfl, hs⟩)
  · exact am_lk_c (show am_n32 n by unfold am_n32; omega) hs
theorem am_s_ldcI {i : Nat} {v : Int} (hv : am_n32 v) (hc : Cond.constant M.1.cls i (Int32.ofInt v) ∈ am_good) (hd : decode M.2.1 pc = .ok (.ldc i, 2)) (k : am_P l sc d M (pc + 2) ls (Vi v :: st) h r) : am_P l sc d M pc ls (st) h r := by
  refine am_stk k (fun C hw hV hl hlk hsk hs kk => ?_) (fun hh hl hs => ?_)
  · exact lv_ldc C.1 C.2.1 C.2.2.2.1 (C.2.2.2.2.1 _ hc) hd (kk _ ⟨rfl, hs⟩)
  · exact am_lk_c hv hs
theorem am_s_ldcwI {i : Nat} {v : Int} (hv : am_n32 v) (hc : Cond.constant M.1.cls i (Int32.ofInt v) ∈ am_good) (hd : decode M.2.1 pc = .ok (.ldc_w i, 3)) (k : am_P l sc d M (pc + 3) ls (Vi v :: st) h r) : am_P l sc d M pc ls (st) h r := by
  refine am_stk k (fun C hw hV hl hlk hsk hs kk => ?_) (fun hh hl hs => ?_)
  · exact lv_ldcw C.1 C.2.1 C.2.2.2.1 (C.2.2.2.2.1 _ hc) hd (kk _ ⟨rfl, hs⟩)
  · exact am_lk_c hv hs
theorem am_s_ldcS {i j : Nat} {tx : String} (hc : Cond.stringRef M.1.cls i tx ∈ lw_tbl) (hj : am_ltx.getD j "" = tx) (hj2 : j < 23) (hd : decode M.2.1 pc = .ok (.ldc i, 2)) (k : am_P l sc d M (pc + 2) ls (Vx (j + 2) :: st) h r) : am_P l sc d M pc ls (st) h r := by
  refine am_stk k (fun C hw hV hl hlk hsk hs kk => ?_) (fun hh hl hs => ?_)
  · exact va_ldcS C.1 C.2.1 C.2.2.2.1 (C.2.2.2.2.2.2.2.2.2.2.2.2.2.2.2.2.2.2.1 _ _ _ hc j hj hj2) hd (kk _ ⟨rfl, hs⟩)
  · exact am_lk_c trivial hs
theorem am_s_lconst {n : Fin 2} (hd : decode M.2.1 pc = .ok (.lconst n, 1)) (k : am_P l sc d M (pc + 1) ls (Vl (n : Nat) :: st) h r) : am_P l sc d M pc ls (st) h r := by
  refine am_stk k (fun C hw hV hl hlk hsk hs kk => ?_) (fun hh hl hs => ?_)
  · exact lv_lconst C.1 C.2.1 hd (by rw [Int64.ofInt_eq_ofNat]) (kk _ ⟨rfl, hs⟩)
  · exact am_lk_c (show am_n32 ((n : Nat) : Int) by have := n.2; unfold am_n32; omega) hs
theorem am_s_null (hd : decode M.2.1 pc = .ok (.aconst_null, 1)) (k : am_P l sc d M (pc + 1) ls (Vr none :: st) h r) : am_P l sc d M pc ls (st) h r := by
  refine am_stk k (fun C hw hV hl hlk hsk hs kk => ?_) (fun hh hl hs => ?_)
  · exact lv_null C.1 C.2.1 hd (kk _ ⟨rfl, hs⟩)
  · exact am_lk_c trivial hs
theorem am_s_iload_n {k : Fin 4} {x : Int} (hx : am_nth ls k = some (Vi x)) (hd : decode M.2.1 pc = .ok (.iload_n k, 1)) (k : am_P l sc d M (pc + 1) ls (Vi x :: st) h r) : am_P l sc d M pc ls (st) h r := by
  refine am_stk k (fun C hw hV hl hlk hsk hs kk => ?_) (fun hh hl hs => ?_)
  · exact lv_iload_n C.1 C.2.1 hd rfl (am_kn_get hl hx rfl) (kk _ ⟨rfl, hs⟩)
  · exact am_lk_c (hl _ (am_nth_mem hx)) hs
theorem am_s_iload {k : Nat} {x : Int} (hx : am_nth ls k = some (Vi x)) (hd : decode M.2.1 pc = .ok (.iload k, 2)) (k : am_P l sc d M (pc + 2) ls (Vi x :: st) h r) : am_P l sc d M pc ls (st) h r := by
  refine am_stk k (fun C hw hV hl hlk hsk hs kk => ?_) (fun hh hl hs => ?_)
  · exact lv_iload C.1 C.2.1 hd (am_kn_get hl hx rfl) (kk _ ⟨rfl, hs⟩)
  · exact am_lk_c (hl _ (am_nth_mem hx)) hs
theorem am_s_aload_n {k : Fin 4} {x : Option Nat} (hx : am_nth ls k = some (Vr x)) (hd : decode M.2.1 pc = .ok (.aload_n k, 1)) (k : am_P l sc d M (pc + 1) ls (Vr x :: st) h r) : am_P l sc d M pc ls (st) h r := by
  refine am_stk k (fun C hw hV hl hlk hsk hs kk => ?_) (fun hh hl hs => ?_)
  · cases x with
    | none => exact lv_aload_nN C.1 C.2.1 hd rfl (am_kn_get hl hx rfl) (kk _ ⟨rfl, hs⟩)
    | some a => exact lv_aload_n C.1 C.2.1 hd rfl (am_kn_get hl hx rfl) (kk _ ⟨rfl, hs⟩)
  · exact am_lk_c (hl _ (am_nth_mem hx)) hs
theorem am_s_aload_nX {k : Fin 4} {j : Nat} (hx : am_nth ls k = some (Vx (j + 1))) (hd : decode M.2.1 pc = .ok (.aload_n k, 1)) (k : am_P l sc d M (pc + 1) ls (Vx (j + 1) :: st) h r) : am_P l sc d M pc ls (st) h r := by
  refine am_stk k (fun C hw hV hl hlk hsk hs kk => ?_) (fun hh hl hs => ?_)
  · exact lv_aload_n C.1 C.2.1 hd rfl (am_kn_get hl hx rfl) (kk _ ⟨rfl, hs⟩)
  · exact am_lk_c trivial hs
theorem am_s_aload {k : Nat} {x : Option Nat} (hx : am_nth ls k = some (Vr x)) (hd : decode M.2.1 pc = .ok (.aload k, 2)) (k : am_P l sc d M (pc + 2) ls (Vr x :: st) h r) : am_P l sc d M pc ls (st) h r := by
  refine am_stk k (fun C hw hV hl hlk hsk hs kk => ?_) (fun hh hl hs => ?_)
  · cases x with
    | none => exact lv_aloadN C.1 C.2.1 hd (am_kn_get hl hx rfl) (kk _ ⟨rfl, hs⟩)
    | some a => exact lv_aload C.1 C.2.1 hd (am_kn_get hl hx rfl) (kk _ ⟨rfl, hs⟩)
  · exact am_lk_c (hl _ (am_nth_mem hx)) hs
theorem am_s_aloadX {k : Nat} {j : Nat} (hx : am_nth ls k = some (Vx (j + 1))) (hd : decode M.2.1 pc = .ok (.aload k, 2)) (k : am_P l sc d M (pc + 2) ls (Vx (j + 1) :: st) h r) : am_P l sc d M pc ls (st) h r := by
  refine am_stk k (fun C hw hV hl hlk hsk hs kk => ?_) (fun hh hl hs => ?_)
  · exact lv_aload C.1 C.2.1 hd (am_kn_get hl hx rfl) (kk _ ⟨rfl, hs⟩)
  · exact am_lk_c trivial hs
theorem am_s_iadd {x y : Int} (hd : decode M.2.1 pc = .ok (.iadd, 1)) (k : am_P l sc d M (pc + 1) ls (Vi (w32 (x + y)) :: st) h r) : am_P l sc d M pc ls (Vi y :: Vi x :: st) h r := by
  refine am_stk k (fun C hw hV hl hlk hsk hs kk => ?_) (fun hh hl hs => ?_)
  · obtain ⟨m1, rfl, hs1⟩ := am_sl_i hs
    obtain ⟨m2, rfl, hs2⟩ := am_sl_i hs1
    exact lv_iadd C.1 C.2.1 hd (kk _ ⟨by show _ = Value.int (Int32.ofInt _); rw [am_ofw, Int32.ofInt_add], hs2⟩)
  · exact am_lk_c (am_w32_n _) (am_lk_t (am_lk_t hs))
theorem am_s_isub {x y : Int} (hd : decode M.2.1 pc = .ok (.isub, 1)) (k : am_P l sc d M (pc + 1) ls (Vi (w32 (x - y)) :: st) h r) : am_P l sc d M pc ls (Vi y :: Vi x :: st) h r := by
  refine am_stk k (fun C hw hV hl hlk hsk hs kk => ?_) (fun hh hl hs => ?_)
  · obtain ⟨m1, rfl, hs1⟩ := am_sl_i hs
    obtain ⟨m2, rfl, hs2⟩ := am_sl_i hs1
    exact lv_isub C.1 C.2.1 hd (kk _ ⟨by show _ = Value.int (Int32.ofInt _); rw [am_ofw, Int32.ofInt_sub], hs2⟩)
  · exact am_lk_c (am_w32_n _) (am_lk_t (am_lk_t hs))
theorem am_s_imul {x y : Int} (hd : decode M.2.1 pc = .ok (.imul, 1)) (k : am_P l sc d M (pc + 1) ls (Vi (w32 (x * y)) :: st) h r) : am_P l sc d M pc ls (Vi y :: Vi x :: st) h r := by
  refine am_stk k (fun C hw hV hl hlk hsk hs kk => ?_) (fun hh hl hs => ?_)
  · obtain ⟨m1, rfl, hs1⟩ := am_sl_i hs
    obtain ⟨m2, rfl, hs2⟩ := am_sl_i hs1
    exact lv_imul C.1 C.2.1 hd (kk _ ⟨by show _ = Value.int (Int32.ofInt _); rw [am_ofw, Int32.ofInt_mul], hs2⟩)
  · exact am_lk_c (am_w32_n _) (am_lk_t (am_lk_t hs))
theorem am_s_iand {x y : Int} (hd : decode M.2.1 pc = .ok (.iand, 1)) (k : am_P l sc d M (pc + 1) ls (Vi (bAnd x y) :: st) h r) : am_P l sc d M pc ls (Vi y :: Vi x :: st) h r := by
  refine am_stk k (fun C hw hV hl hlk hsk hs kk => ?_) (fun hh hl hs => ?_)
  · obtain ⟨m1, rfl, hs1⟩ := am_sl_i hs
    obtain ⟨m2, rfl, hs2⟩ := am_sl_i hs1
    exact lv_iand C.1 C.2.1 hd (kk _ ⟨by show _ = Value.int (Int32.ofInt _); unfold bAnd; rw [Int32.ofInt_toInt], hs2⟩)
  · exact am_lk_c (am_n32_toInt _) (am_lk_t (am_lk_t hs))
theorem am_s_ior {x y : Int} (hd : decode M.2.1 pc = .ok (.ior, 1)) (k : am_P l sc d M (pc + 1) ls (Vi (bOr x y) :: st) h r) : am_P l sc d M pc ls (Vi y :: Vi x :: st) h r := by
  refine am_stk k (fun C hw hV hl hlk hsk hs kk => ?_) (fun hh hl hs => ?_)
  · obtain ⟨m1, rfl, hs1⟩ := am_sl_i hs
    obtain ⟨m2, rfl, hs2⟩ := am_sl_i hs1
    exact lv_ior C.1 C.2.1 hd (kk _ ⟨by show _ = Value.int (Int32.ofInt _); unfold bOr; rw [Int32.ofInt_toInt], hs2⟩)
  · exact am_lk_c (am_n32_toInt _) (am_lk_t (am_lk_t hs))
theorem am_s_ixor {x y : Int} (hd : decode M.2.1 pc = .ok (.ixor, 1)) (k : am_P l sc d M (pc + 1) ls (Vi (bXor x y) :: st) h r) : am_P l sc d M pc ls (Vi y :: Vi x :: st) h r := by
  refine am_stk k (fun C hw hV hl hlk hsk hs kk => ?_) (fun hh hl hs => ?_)
  · obtain ⟨m1, rfl, hs1⟩ := am_sl_i hs
    obtain ⟨m2, rfl, hs2⟩ := am_sl_i hs1
    exact lv_ixor C.1 C.2.1 hd (kk _ ⟨by show _ = Value.int (Int32.ofInt _); unfold bXor; rw [Int32.ofInt_toInt], hs2⟩)
  · exact am_lk_c (am_n32_toInt _) (am_lk_t (am_lk_t hs))
theorem am_s_ishl {x y : Int} (hd : decode M.2.1 pc = .ok (.ishl, 1)) (k : am_P l sc d M (pc + 1) ls (Vi (bShl x y) :: st) h r) : am_P l sc d M pc ls (Vi y :: Vi x :: st) h r := by
  refine am_stk k (fun C hw hV hl hlk hsk hs kk => ?_) (fun hh hl hs => ?_)
  · obtain ⟨m1, rfl, hs1⟩ := am_sl_i hs
    obtain ⟨m2, rfl, hs2⟩ := am_sl_i hs1
    exact lv_ishl C.1 C.2.1 hd (kk _ ⟨by show _ = Value.int (Int32.ofInt _); unfold bShl; rw [Int32.ofInt_toInt], hs2⟩)
  · exact am_lk_c (am_n32_toInt _) (am_lk_t (am_lk_t hs))
theorem am_s_ishr {x y : Int} (hd : decode M.2.1 pc = .ok (.ishr, 1)) (k : am_P l sc d M (pc + 1) ls (Vi (bShr x y) :: st) h r) : am_P l sc d M pc ls (Vi y :: Vi x :: st) h r := by
  refine am_stk k (fun C hw hV hl hlk hsk hs kk => ?_) (fun hh hl hs => ?_)
  · obtain ⟨m1, rfl, hs1⟩ := am_sl_i hs
    obtain ⟨m2, rfl, hs2⟩ := am_sl_i hs1
    exact lv_ishr C.1 C.2.1 hd (kk _ ⟨by show _ = Value.int (Int32.ofInt _); unfold bShr; rw [Int32.ofInt_toInt], hs2⟩)
  · exact am_lk_c (am_n32_toInt _) (am_lk_t (am_lk_t hs))
theorem am_s_iushr {x y : Int} (hd : decode M.2.1 pc = .ok (.iushr, 1)) (k : am_P l sc d M (pc + 1) ls (Vi (bUshr x y) :: st) h r) : am_P l sc d M pc ls (Vi y :: Vi x :: st) h r := by
  refine am_stk k (fun C hw hV hl hlk hsk hs kk => ?_) (fun hh hl hs => ?_)
  · obtain ⟨m1, rfl, hs1⟩ := am_sl_i hs
    obtain ⟨m2, rfl, hs2⟩ := am_sl_i hs1
    exact lv_iushr C.1 C.2.1 hd rfl (kk _ ⟨by show _ = Value.int (Int32.ofInt _); unfold bUshr; rw [Int32.ofInt_toInt], hs2⟩)
  · exact am_lk_c (am_n32_toInt _) (am_lk_t (am_lk_t hs))
theorem am_s_idiv {x y : Int} (h0 : ¬ y = 0) (hd : decode M.2.1 pc = .ok (.idiv, 1)) (k : am_P l sc d M (pc + 1) ls (Vi (w32 (x.tdiv y)) :: st) h r) : am_P l sc d M pc ls (Vi y :: Vi x :: st) h r := by
  refine am_stk k (fun C hw hV hl hlk hsk hs kk => ?_) (fun hh hl hs => ?_)
  · obtain ⟨m1, rfl, hs1⟩ := am_sl_i hs
    obtain ⟨m2, rfl, hs2⟩ := am_sl_i hs1
    exact lv_idiv C.1 C.2.1 hd (am_ne0 (am_lk_h hsk) h0) (kk _ ⟨by show _ = Value.int (Int32.ofInt _); rw [am_idiv (am_lk_h (am_lk_t hsk)) (am_lk_h hsk)], hs2⟩)
  · exact am_lk_c (am_w32_n _) (am_lk_t (am_lk_t hs))
theorem am_s_irem {x y : Int} (h0 : ¬ y = 0) (hd : decode M.2.1 pc = .ok (.irem, 1)) (k : am_P l sc d M (pc + 1) ls (Vi (x.tmod y) :: st) h r) : am_P l sc d M pc ls (Vi y :: Vi x :: st) h r := by
  refine am_stk k (fun C hw hV hl hlk hsk hs kk => ?_) (fun hh hl hs => ?_)
  · obtain ⟨m1, rfl, hs1⟩ := am_sl_i hs
    obtain ⟨m2, rfl, hs2⟩ := am_sl_i hs1
    exact lv_irem C.1 C.2.1 hd (am_ne0 (am_lk_h hsk) h0) (kk _ ⟨by show _ = Value.int (Int32.ofInt _); rw [am_irem (am_lk_h (am_lk_t hsk)) (am_lk_h hsk) h0], hs2⟩)
  · exact am_lk_c (am_tmod_n (am_lk_h (am_lk_t hs)) (am_lk_h hs) h0) (am_lk_t (am_lk_t hs))
theorem am_s_ineg {x : Int} (hd : decode M.2.1 pc = .ok (.ineg, 1)) (k : am_P l sc d M (pc + 1) ls (Vi (w32 (-x)) :: st) h r) : am_P l sc d M pc ls (Vi x :: st) h r := by
  refine am_stk k (fun C hw hV hl hlk hsk hs kk => ?_) (fun hh hl hs => ?_)
  · obtain ⟨m1, rfl, hs1⟩ := am_sl_i hs
    exact lv_ineg C.1 C.2.1 hd (kk _ ⟨by show _ = Value.int (Int32.ofInt _); rw [am_ofw, Int32.ofInt_neg], hs1⟩)
  · exact am_lk_c (am_w32_n _) (am_lk_t hs)
theorem am_s_i2b {x : Int} (hd : decode M.2.1 pc = .ok (.i2b, 1)) (k : am_P l sc d M (pc + 1) ls (Vi (bI2b x) :: st) h r) : am_P l sc d M pc ls (Vi x :: st) h r := by
  refine am_stk k (fun C hw hV hl hlk hsk hs kk => ?_) (fun hh hl hs => ?_)
  · obtain ⟨m1, rfl, hs1⟩ := am_sl_i hs
    exact lv_i2b C.1 C.2.1 hd rfl (kk _ ⟨by show _ = Value.int (Int32.ofInt _); unfold bI2b; rw [Int32.ofInt_toInt], hs1⟩)
  · exact am_lk_c (am_n32_toInt _) (am_lk_t hs)
theorem am_s_i2c {x : Int} (hd : decode M.2.1 pc = .ok (.i2c, 1)) (k : am_P l sc d M (pc + 1) ls (Vi (bI2c x) :: st) h r) : am_P l sc d M pc ls (Vi x :: st) h r := by
  refine am_stk k (fun C hw hV hl hlk hsk hs kk => ?_) (fun hh hl hs => ?_)
  · obtain ⟨m1, rfl, hs1⟩ := am_sl_i hs
    exact lv_i2c C.1 C.2.1 hd rfl (kk _ ⟨by show _ = Value.int (Int32.ofInt _); unfold bI2c; rw [Int32.ofInt_toInt], hs1⟩)
  · exact am_lk_c (am_n32_toInt _) (am_lk_t hs)
theorem am_s_i2l {x : Int} (hd : decode M.2.1 pc = .ok (.i2l, 1)) (k : am_P l sc d M (pc + 1) ls (Vl x :: st) h r) : am_P l sc d M pc ls (Vi x :: st) h r := by
  refine am_stk k (fun C hw hV hl hlk hsk hs kk => ?_) (fun hh hl hs => ?_)
  · obtain ⟨m1, rfl, hs1⟩ := am_sl_i hs
    exact lv_i2l C.1 C.2.1 hd (am_i64 (am_lk_h hsk)) (kk _ ⟨rfl, hs1⟩)
  · exact am_lk_c (v := Vl x) (show am_n32 x from am_lk_h hs) (am_lk_t hs)
theorem am_s_lcmp {x y : Int} (hd : decode M.2.1 pc = .ok (.lcmp, 1)) (k : am_P l sc d M (pc + 1) ls (Vi (if y < x then 1 else if x = y then 0 else -1) :: st) h r) : am_P l sc d M pc ls (Vl y :: Vl x :: st) h r := by
  refine am_stk k (fun C hw hV hl hlk hsk hs kk => ?_) (fun hh hl hs => ?_)
  · obtain ⟨m1, rfl, hs1⟩ := am_sl_l hs
    obtain ⟨m2, rfl, hs2⟩ := am_sl_l hs1
    have h1 : am_n32 y := am_lk_h hsk
    have h2 : am_n32 x := am_lk_h (am_lk_t hsk)
    refine W.lcmp C.1 C.2.1 hd (kk _ ⟨?_, hs2⟩)
    show Value.int (lg_cmp (Int64.ofInt x) (Int64.ofInt y)) = Value.int (Int32.ofInt _)
    have t1 : (Int64.ofInt x).toInt = x := Int64.toInt_ofInt_of_le (by have := h2.1; omega) (by have := h2.2; omega)
    have t2 : (Int64.ofInt y).toInt = y := Int64.toInt_ofInt_of_le (by have := h1.1; omega) (by have := h1.2; omega)
    have e1 : (Int64.ofInt y < Int64.ofInt x) ↔ y < x := by rw [Int64.lt_iff_toInt_lt, t1, t2]
    have e2 : (Int64.ofInt x = Int64.ofInt y) ↔ x = y := ⟨fun e => by rw [← t1, ← t2, e], fun e => by rw [e]⟩
    unfold lg_cmp
    by_cases c1 : y < x
    · rw [if_pos (show Int64.ofInt x > Int64.ofInt y from e1.mpr c1), if_pos c1]; rfl
    · rw [if_neg (fun e => c1 (e1.mp e)), if_neg c1]
      by_cases c2 : x = y
      · rw [if_pos (e2.mpr c2), if_pos c2]; rfl
      · rw [if_neg (fun e => c2 (e2.mp e)), if_neg c2]; rfl
  · refine am_lk_c ?_ (am_lk_t (am_lk_t hs))
    show am_n32 _
    unfold am_n32
    split
    · omega
    · split <;> omega
theorem am_s_dupI {x : Int} (hd : decode M.2.1 pc = .ok (.dup, 1)) (k : am_P l sc d M (pc + 1) ls (Vi x :: Vi x :: st) h r) : am_P l sc d M pc ls (Vi x :: st) h r := by
  refine am_stk k (fun C hw hV hl hlk hsk hs kk => ?_) (fun hh hl hs => ?_)
  · obtain ⟨m1, rfl, hs1⟩ := am_sl_i hs
    exact lv_dup C.1 C.2.1 hd rfl (kk _ ⟨rfl, rfl, hs1⟩)
  · exact am_lk_c (am_lk_h hs) hs
theorem am_s_dupR {x : Option Nat} (hd : decode M.2.1 pc = .ok (.dup, 1)) (k : am_P l sc d M (pc + 1) ls (Vr x :: Vr x :: st) h r) : am_P l sc d M pc ls (Vr x :: st) h r := by
  refine am_stk k (fun C hw hV hl hlk hsk hs kk => ?_) (fun hh hl hs => ?_)
  · obtain ⟨m1, rfl, hs1⟩ := am_sl_r hs
    exact lv_dup C.1 C.2.1 hd (by cases x <;> rfl) (kk _ ⟨rfl, rfl, hs1⟩)
  · exact am_lk_c (am_lk_h hs) hs
theorem am_s_dup2 {i : Int} {x : Option Nat} (hd : decode M.2.1 pc = .ok (.dup2, 1)) (k : am_P l sc d M (pc + 1) ls (Vi i :: Vr x :: Vi i :: Vr x :: st) h r) : am_P l sc d M pc ls (Vi i :: Vr x :: st) h r := by
  refine am_stk k (fun C hw hV hl hlk hsk hs kk => ?_) (fun hh hl hs => ?_)
  · obtain ⟨m1, rfl, hs1⟩ := am_sl_i hs
    obtain ⟨m2, rfl, hs2⟩ := am_sl_r hs1
    exact lv_dup2_11 C.1 C.2.1 hd rfl (by cases x <;> rfl) (kk _ ⟨rfl, rfl, rfl, rfl, hs2⟩)
  · exact am_lk_c (am_lk_h hs) (am_lk_c (am_lk_h (am_lk_t hs)) hs)
theorem am_s_popI {x : Int} (hd : decode M.2.1 pc = .ok (.pop, 1)) (k : am_P l sc d M (pc + 1) ls (st) h r) : am_P l sc d M pc ls (Vi x :: st) h r := by
  refine am_stk k (fun C hw hV hl hlk hsk hs kk => ?_) (fun hh hl hs => ?_)
  · obtain ⟨m1, rfl, hs1⟩ := am_sl_i hs
    exact lv_pop C.1 C.2.1 hd rfl (kk _ hs1)
  · exact am_lk_t hs
theorem am_s_popR {x : Option Nat} (hd : decode M.2.1 pc = .ok (.pop, 1)) (k : am_P l sc d M (pc + 1) ls (st) h r) : am_P l sc d M pc ls (Vr x :: st) h r := by
  refine am_stk k (fun C hw hV hl hlk hsk hs kk => ?_) (fun hh hl hs => ?_)
  · obtain ⟨m1, rfl, hs1⟩ := am_sl_r hs
    exact lv_pop C.1 C.2.1 hd (by cases x <;> rfl) (kk _ hs1)
  · exact am_lk_t hs
theorem am_s_istore_n {k : Fin 4} {x : Int} (hd : decode M.2.1 pc = .ok (.istore_n k, 1)) (hk : (k : Nat) < M.2.2.1) (kp : am_P l sc d M (pc + 1) (am_set ls k (Vi x)) st h r) : am_P l sc d M pc ls (Vi x :: st) h r := by
  refine am_loc kp (fun C hl hlk hsk hs kk => ?_) (fun hl hs => ⟨am_set_lk (am_lk_h hs) hl, am_lk_t hs⟩)
  obtain ⟨m1, rfl, hs1⟩ := am_sl_i hs
  exact lv_istore_n C.1 C.2.1 hd rfl hl hk rfl fun ls2 h2 => kk ls2 _ (am_kn_set (Or.inl rfl) h2) hs1
theorem am_s_istore {k : Nat} {x : Int} (hd : decode M.2.1 pc = .ok (.istore k, 2)) (hk : (k : Nat) < M.2.2.1) (kp : am_P l sc d M (pc + 2) (am_set ls k (Vi x)) st h r) : am_P l sc d M pc ls (Vi x :: st) h r := by
  refine am_loc kp (fun C hl hlk hsk hs kk => ?_) (fun hl hs => ⟨am_set_lk (am_lk_h hs) hl, am_lk_t hs⟩)
  obtain ⟨m1, rfl, hs1⟩ := am_sl_i hs
  exact lv_istore C.1 C.2.1 hd hl hk rfl fun ls2 h2 => kk ls2 _ (am_kn_set (Or.inl rfl) h2) hs1
theorem am_s_astore_n {k : Fin 4} {x : Option Nat} (hd : decode M.2.1 pc = .ok (.astore_n k, 1)) (hk : (k : Nat) < M.2.2.1) (kp : am_P l sc d M (pc + 1) (am_set ls k (Vr x)) st h r) : am_P l sc d M pc ls (Vr x :: st) h r := by
  refine am_loc kp (fun C hl hlk hsk hs kk => ?_) (fun hl hs => ⟨am_set_lk (am_lk_h hs) hl, am_lk_t hs⟩)
  obtain ⟨m1, rfl, hs1⟩ := am_sl_r hs
  cases x with
  | none => exact lv_astore_nN C.1 C.2.1 hd rfl hl hk rfl fun ls2 h2 => kk ls2 _ (am_kn_set (Or.inl rfl) h2) hs1
  | some a => exact lv_astore_n C.1 C.2.1 hd rfl hl hk rfl fun ls2 h2 => kk ls2 _ (am_kn_set (Or.inl rfl) h2) hs1
theorem am_s_astore_nX {k : Fin 4} {x : Nat} (hd : decode M.2.1 pc = .ok (.astore_n k, 1)) (hk : (k : Nat) < M.2.2.1) (kp : am_P l sc d M (pc + 1) (am_set ls k (Vx x)) st h r) : am_P l sc d M pc ls (Vx x :: st) h r := by
  refine am_loc kp (fun {p e R s m args below meth c H locs cells slots Q G yc q n0 ad lsA stA} C hl hlk hsk hs kk => ?_) (fun hl hs => ⟨am_set_lk (am_lk_h hs) hl, am_lk_t hs⟩)
  cases x with
  | zero =>
    obtain ⟨v, m1, rfl, hv, hs1⟩ := am_sl_0 hs
    have ha : am_lv ad q (Vx 0) = none := rfl
    rcases hv with rfl | ⟨z, rfl⟩
    · exact lv_astore_nN C.1 C.2.1 hd rfl hl hk rfl fun ls2 h2 => kk ls2 _ (am_kn_set (Or.inr ha) h2) hs1
    · exact lv_astore_n C.1 C.2.1 hd rfl hl hk rfl fun ls2 h2 => kk ls2 _ (am_kn_set (Or.inr ha) h2) hs1
  | succ j =>
    obtain ⟨m1, rfl, hs1⟩ := am_sl_x hs
    have ha : am_lv ad q (Vx (j + 1)) = some (.ref (q (j + 1))) := rfl
    exact lv_astore_n C.1 C.2.1 hd rfl hl hk rfl fun ls2 h2 => kk ls2 _ (am_kn_set (Or.inl ha) h2) hs1
theorem am_s_astore {k : Nat} {x : Option Nat} (hd : decode M.2.1 pc = .ok (.astore k, 2)) (hk : (k : Nat) < M.2.2.1) (kp : am_P l sc d M (pc + 2) (am_set ls k (Vr x)) st h r) : am_P l sc d M pc ls (Vr x :: st) h r := by
  refine am_loc kp (fun C hl hlk hsk hs kk => ?_) (fun hl hs => ⟨am_set_lk (am_lk_h hs) hl, am_lk_t hs⟩)
  obtain ⟨m1, rfl, hs1⟩ := am_sl_r hs
  cases x with
  | none => exact lv_astoreN C.1 C.2.1 hd hl hk rfl fun ls2 h2 => kk ls2 _ (am_kn_set (Or.inl rfl) h2) hs1
  | some a => exact lv_astore C.1 C.2.1 hd hl hk rfl fun ls2 h2 => kk ls2 _ (am_kn_set (Or.inl rfl) h2) hs1
theorem am_s_astoreX {k : Nat} {x : Nat} (hd : decode M.2.1 pc = .ok (.astore k, 2)) (hk : (k : Nat) < M.2.2.1) (kp : am_P l sc d M (pc + 2) (am_set ls k (Vx x)) st h r) : am_P l sc d M pc ls (Vx x :: st) h r := by
  refine am_loc kp (fun {p e R s m args below meth c H locs cells slots Q G yc q n0 ad lsA stA} C hl hlk hsk hs kk => ?_) (fun hl hs => ⟨am_set_lk (am_lk_h hs) hl, am_lk_t hs⟩)
  cases x with
  | zero =>
    obtain ⟨v, m1, rfl, hv, hs1⟩ := am_sl_0 hs
    have ha : am_lv ad q (Vx 0) = none := rfl
    rcases hv with rfl | ⟨z, rfl⟩
    · exact lv_astoreN C.1 C.2.1 hd hl hk rfl fun ls2 h2 => kk ls2 _ (am_kn_set (Or.inr ha) h2) hs1
    · exact lv_astore C.1 C.2.1 hd hl hk rfl fun ls2 h2 => kk ls2 _ (am_kn_set (Or.inr ha) h2) hs1
  | succ j =>
    obtain ⟨m1, rfl, hs1⟩ := am_sl_x hs
    have ha : am_lv ad q (Vx (j + 1)) = some (.ref (q (j + 1))) := rfl
    exact lv_astore C.1 C.2.1 hd hl hk rfl fun ls2 h2 => kk ls2 _ (am_kn_set (Or.inl ha) h2) hs1
theorem am_kn_at {ad q : Nat → Nat} {ls : List am_V} {k : Nat} {v : am_V} {x : Value} (h1 : am_nth ls k = some v) (h2 : am_lv ad q v = some x) : ∃ j : Nat, (am_kn ad q 0 ls)[j]? = some (k, x) :=
  List.mem_iff_getElem?.mp (am_kn_mem.mpr ⟨k, v, (Nat.zero_add k).symm, h1, h2⟩)
theorem am_s_iinc {k : Nat} {n x : Int} (hd : decode M.2.1 pc = .ok (.iinc k n, 3)) (hk : k < M.2.2.1) (hx : am_nth ls k = some (Vi x)) (kp : am_P l sc d M (pc + 3) (am_set ls k (Vi (w32 (x + n)))) st h r) : am_P l sc d M pc ls st h r := by
  refine am_loc kp (fun {p e R s m args below meth c H locs cells slots Q G yc q n0 ad lsA stA} C hl hlk hsk hs kk => ?_) (fun hl hs => ⟨am_set_lk (w := Vi (w32 (x + n))) (show am_n32 _ from am_w32_n _) hl, hs⟩)
  obtain ⟨j, hj⟩ := am_kn_at (ad := ad) (q := q) hx rfl
  exact lv_iinc C.1 C.2.1 hd hl hj (by rw [← Int32.ofInt_add, ← am_ofw]) hk rfl fun ls2 h2 => kk ls2 _ (am_kn_set (Or.inl rfl) h2) hs
end
