/-! AN ABSTRACT MACHINE. A value: an int, a reference (a place of the heap, or null), a long, a special thing (0: unknown, 1: the script, 2 + j: the literal j, 200 + j: its bytes). A heap: cells made, slots made, how many places, the kind of each place (0 and its class; 1 ints, 2 booleans, 3 bytes, 4 longs, 5 rows of objects, 6 rows of rows, and how many), the numbers that lie at a place, the references that lie there. -/
abbrev am_V : Type := Int ⊕ (Option Nat ⊕ (Int ⊕ Nat))
abbrev Vi (x : Int) : am_V := .inl x
abbrev Vr (r : Option Nat) : am_V := .inr (.inl r)
abbrev Vl (x : Int) : am_V := .inr (.inr (.inl x))
abbrev Vx (k : Nat) : am_V := .inr (.inr (.inr k))
abbrev am_H : Type := Nat × Nat × Nat × (Nat → Nat × Nat) × (Nat → Nat → Int) × (Nat → Nat → Option Nat)
abbrev am_R : Type := Option ((am_V ⊕ Nat) × am_H)
abbrev am_E : Type := Nat × Nat × Instr × List Int
def hC (h : am_H) : Nat := h.1
def hS (h : am_H) : Nat := h.2.1
def hZ (h : am_H) : Nat := h.2.2.1
def hT (h : am_H) (a : Nat) : Nat × Nat := h.2.2.2.1 a
def rI (h : am_H) (a i : Nat) : Int := h.2.2.2.2.1 a i
def rP (h : am_H) (a i : Nat) : Option Nat := h.2.2.2.2.2 a i
def am_u2 {α : Type} (f : Nat → Nat → α) (a i : Nat) (v : α) : Nat → Nat → α := fun b j => if b = a ∧ j = i then v else f b j
def am_u1 {α : Type} (f : Nat → α) (a : Nat) (v : α) : Nat → α := fun b => if b = a then v else f b
def wI (h : am_H) (a i : Nat) (v : Int) : am_H := (h.1, h.2.1, h.2.2.1, h.2.2.2.1, am_u2 h.2.2.2.2.1 a i v, h.2.2.2.2.2)
def wP (h : am_H) (a i : Nat) (v : Option Nat) : am_H := (h.1, h.2.1, h.2.2.1, h.2.2.2.1, h.2.2.2.2.1, am_u2 h.2.2.2.2.2 a i v)
/-- a new place of kind t, n: its numbers 0, its references null -/
def am_new (h : am_H) (t n k : Nat) : am_H := (h.1 + 1, h.2.1 + k, h.2.2.1 + 1, am_u1 h.2.2.2.1 h.2.2.1 (t, n), am_u1 h.2.2.2.2.1 h.2.2.1 (fun _ => 0), am_u1 h.2.2.2.2.2 h.2.2.1 (fun _ => none))
/-- rows of rows: the outer one, n inner ones of k ints behind it -/
def am_grid (h : am_H) (n k : Nat) : am_H := (h.1 + (1 + n), h.2.1 + (n + n * k), h.2.2.1 + (1 + n), (fun a => if a = h.2.2.1 then (6, n) else if h.2.2.1 < a ∧ a < h.2.2.1 + (1 + n) then (1, k) else h.2.2.2.1 a), (fun a => if h.2.2.1 ≤ a ∧ a < h.2.2.1 + (1 + n) then (fun _ => 0) else h.2.2.2.2.1 a), (fun a => if a = h.2.2.1 then (fun i => if i < n then some (h.2.2.1 + 1 + i) else none) else if h.2.2.1 < a ∧ a < h.2.2.1 + (1 + n) then (fun _ => none) else h.2.2.2.2.2 a))
/-- the row a once more, at a new place -/
def am_cln (h : am_H) (a : Nat) : am_H := (h.1 + 1, h.2.1 + (hT h a).2, h.2.2.1 + 1, am_u1 h.2.2.2.1 h.2.2.1 (hT h a), am_u1 h.2.2.2.2.1 h.2.2.1 (h.2.2.2.2.1 a), am_u1 h.2.2.2.2.2 h.2.2.1 (fun _ => none))
def am_ex (h : am_H) : am_H := (h.1 + 1, h.2.1 + 6, h.2.2)
def am_cpf (f : Nat → Nat → Int) (a sp b dp n : Nat) : Nat → Nat → Int := fun c j => if c = b ∧ dp ≤ j ∧ j < dp + n then f a (sp + (j - dp)) else f c j
def cpI (h : am_H) (a sp b dp n : Nat) : am_H := (h.1, h.2.1, h.2.2.1, h.2.2.2.1, am_cpf h.2.2.2.2.1 a sp b dp n, h.2.2.2.2.2)
def w32 (z : Int) : Int := (z + 2147483648) % 4294967296 - 2147483648
def bAnd (x y : Int) : Int := (Int32.ofInt x &&& Int32.ofInt y).toInt
def bOr (x y : Int) : Int := (Int32.ofInt x ||| Int32.ofInt y).toInt
def bXor (x y : Int) : Int := (Int32.ofInt x ^^^ Int32.ofInt y).toInt
def bShl (x y : Int) : Int := (Int32.ofInt x <<< (Int32.ofInt y &&& 31)).toInt
def bShr (x y : Int) : Int := (Int32.ofInt x >>> (Int32.ofInt y &&& 31)).toInt
def bUshr (x y : Int) : Int := ((Int32.ofInt x).toUInt32 >>> ((Int32.ofInt y).toUInt32 &&& Int32.toUInt32 31)).toInt32.toInt
def bI2b (x : Int) : Int := (Int32.ofInt x).toInt8.toInt32.toInt
def bI2c (x : Int) : Int := ((Int32.ofInt x).toUInt32 % 65536).toInt32.toInt
/-- an element of a row of kind t -/
def ldA (t : Nat) (h : am_H) (r : Option Nat) (i : Int) (k : Int → am_R) : am_R := match r with
  | some a => if (hT h a).1 = t ∧ 0 ≤ i ∧ i < (hT h a).2 then k (rI h a i.toNat) else none
  | none => none
def stA (t : Nat) (h : am_H) (r : Option Nat) (i v : Int) (k : am_H → am_R) : am_R := match r with
  | some a => if (hT h a).1 = t ∧ 0 ≤ i ∧ i < (hT h a).2 then k (wI h a i.toNat v) else none
  | none => none
/-- rows of booleans and of bytes -/
def ldB (h : am_H) (r : Option Nat) (i : Int) (k : Int → am_R) : am_R := match r with
  | some a => if ((hT h a).1 = 2 ∨ (hT h a).1 = 3) ∧ 0 ≤ i ∧ i < (hT h a).2 then k (rI h a i.toNat) else none
  | none => none
def stB (h : am_H) (r : Option Nat) (i v : Int) (k : am_H → am_R) : am_R := match r with
  | some a => if (((hT h a).1 = 2 ∧ (v = 0 ∨ v = 1)) ∨ ((hT h a).1 = 3 ∧ -128 ≤ v ∧ v ≤ 127)) ∧ 0 ≤ i ∧ i < (hT h a).2 then k (wI h a i.toNat v) else none
  | none => none
def ldP (t : Nat) (h : am_H) (r : Option Nat) (i : Int) (k : Option Nat → am_R) : am_R := match r with
  | some a => if (hT h a).1 = t ∧ 0 ≤ i ∧ i < (hT h a).2 then k (rP h a i.toNat) else none
  | none => none
/-- an object of class ci stored into a row of objects -/
def stP (ci : Nat) (h : am_H) (r : Option Nat) (i : Int) (v : Option Nat) (k : am_H → am_R) : am_R := match r, v with
  | some a, some b => if (hT h a).1 = 5 ∧ 0 ≤ i ∧ i < (hT h a).2 ∧ hT h b = (0, ci) then k (wP h a i.toNat (some b)) else none
  | _, _ => none
def lenA (h : am_H) (r : Option Nat) (k : Int → am_R) : am_R := match r with
  | some a => if 1 ≤ (hT h a).1 ∧ (hT h a).1 ≤ 6 then k (hT h a).2 else none
  | none => none
def gfI (ci j : Nat) (h : am_H) (r : Option Nat) (k : Int → am_R) : am_R := match r with
  | some a => if hT h a = (0, ci) then k (rI h a j) else none
  | none => none
def gfP (ci j : Nat) (h : am_H) (r : Option Nat) (k : Option Nat → am_R) : am_R := match r with
  | some a => if hT h a = (0, ci) then k (rP h a j) else none
  | none => none
/-- t: 0 an int, 1 a boolean -/
def pfI (t ci j : Nat) (h : am_H) (r : Option Nat) (v : Int) (k : am_H → am_R) : am_R := match r with
  | some a => if hT h a = (0, ci) ∧ (t = 1 → v = 0 ∨ v = 1) then k (wI h a j v) else none
  | none => none
def pfP (ci j : Nat) (h : am_H) (r v : Option Nat) (k : am_H → am_R) : am_R := match r with
  | some a => if hT h a = (0, ci) then k (wP h a j v) else none
  | none => none
def newA (t : Nat) (h : am_H) (n : Int) (k : Option Nat → am_H → am_R) : am_R := if 0 ≤ n ∧ n ≤ 100000 then k (some (hZ h)) (am_new h t n.toNat n.toNat) else none
def newG (h : am_H) (n m : Int) (k : Option Nat → am_H → am_R) : am_R := if 0 ≤ n ∧ n ≤ 100000 ∧ 0 ≤ m ∧ m ≤ 100000 then k (some (hZ h)) (am_grid h n.toNat m.toNat) else none
def cpA (h : am_H) (r : Option Nat) (sp : Int) (q : Option Nat) (dp n : Int) (k : am_H → am_R) : am_R := match r, q with
  | some a, some b => if (hT h a).1 = 1 ∧ (hT h b).1 = 1 ∧ 0 ≤ sp ∧ 0 ≤ dp ∧ 0 ≤ n ∧ sp + n ≤ (hT h a).2 ∧ dp + n ≤ (hT h b).2 then k (cpI h a sp.toNat b dp.toNat n.toNat) else none
  | _, _ => none
/-- a copy of a row of ints -/
def clA (h : am_H) (r : Option Nat) (k : Option Nat → am_H → am_R) : am_R := match r with
  | some a => if (hT h a).1 = 1 then k (some (hZ h)) (am_cln h a) else none
  | none => none
def retP (h : am_H) (p : Option Nat) : am_R := match p with
  | some a => some (.inl (Vr (some a)), h)
  | none => none
def castA (h : am_H) (p : Option Nat) (k : am_R) : am_R := match p with
  | some a => if (hT h a).1 = 1 then k else none
  | none => none
def clI (r : am_R) (x : Nat → am_H → am_R) (k : Int → am_H → am_R) : am_R := match r with
  | some (.inl (.inl v), h) => k v h
  | some (.inr e, h) => x e h
  | _ => none
def clP (r : am_R) (x : Nat → am_H → am_R) (k : Option Nat → am_H → am_R) : am_R := match r with
  | some (.inl (.inr (.inl v)), h) => k v h
  | some (.inr e, h) => x e h
  | _ => none
def clV (r : am_R) (x : Nat → am_H → am_R) (k : am_H → am_R) : am_R := match r with
  | some (.inl _, h) => k h
  | some (.inr e, h) => x e h
  | none => none
def am_xt (e : Nat) (h : am_H) : am_R := some (.inr e, h)
/-- nothing thrown goes on from here -/
def am_xn0 (_ : Nat) (_ : am_H) : am_R := none
def am_nth : List am_V → Nat → Option am_V
  | [], _ => none
  | v :: _, 0 => some v
  | _ :: l, n + 1 => am_nth l n
def am_set : List am_V → Nat → am_V → List am_V
  | [], _, _ => []
  | _ :: l, 0, w => w :: l
  | v :: l, n + 1, w => v :: am_set l n w
def am_arg : List Int → Nat → Int
  | [], _ => 0
  | x :: _, 0 => x
  | _ :: l, n + 1 => am_arg l n
/-- where an exception e thrown at pc is caught: from, to, which, the entry -/
def am_find : List (Nat × Nat × Nat × Nat) → Nat → Nat → Option Nat
  | [], _, _ => none
  | (a, b, c, t) :: l, pc, e => if a ≤ pc ∧ pc < b ∧ c = e then some t else am_find l pc e
def am_bin (st : List am_V) (k : Int → Int → List am_V → am_R) : am_R := match st with
  | .inl y :: .inl x :: r => k x y r
  | _ => none
def am_un (st : List am_V) (k : Int → List am_V → am_R) : am_R := match st with
  | .inl x :: r => k x r
  | _ => none
/-- a receiver of class ci -/
def am_rcv (ci : Nat) (h : am_H) (v : am_V) (k : am_R) : am_R := match v with
  | .inr (.inl (some a)) => if hT h a = (0, ci) then k else none
  | _ => none
def am_if (c : ClassFile.Cond) (x y : Int) (a b : am_R) : am_R := match c with
  | .eq => if x = y then a else b
  | .ne => if x = y then b else a
  | .lt => if x < y then a else b
  | .ge => if x < y then b else a
  | .gt => if y < x then a else b
  | .le => if y < x then b else a
/-- a switch as a chain: J n goes to the n-th way, 0 the default -/
def am_sw (x : Int) (J : Nat → am_R) : Int → Nat → Nat → am_R
  | _, 0, _ => J 0
  | v, n + 1, j => if x = v then J j else am_sw x J (v + 1) n (j + 1)
def am_lk (x : Int) (J : Nat → am_R) : List (Int × Int) → Nat → am_R
  | [], _ => J 0
  | p :: l, j => if x = p.1 then J j else am_lk x J l (j + 1)
def am_ret (t : Int) (x : Int) (h : am_H) : am_R := if t = 0 then some (.inl (Vi x), h) else if t = 1 then (if x = 0 ∨ x = 1 then some (.inl (Vi x), h) else none) else if t = 2 then (if 0 ≤ x ∧ x < 65536 then some (.inl (Vi x), h) else none) else if x = 0 then some (.inl (Vi x), h) else none
abbrev am_K : Type := List am_E → List am_V → List am_V → am_H → am_R
abbrev am_J : Type := Nat → List am_V → List am_V → am_H → am_R
abbrev am_C : Type := Nat → List am_V → am_H → am_R
section
variable (sc : Nat × (Nat → Int)) (lt : Nat → List Int) (cd : List am_E) (hd : List (Nat × Nat × Nat × Nat)) (call : am_C) (jump : am_J) (rec : am_K)
def am_to (xs : List Int) (i : Nat) (ls st : List am_V) (h : am_H) : am_R := if am_arg xs (2 * i) = 0 then rec (cd.drop (am_arg xs (2 * i + 1)).toNat) ls st h else jump (am_arg xs (2 * i + 1)).toNat ls st h
def am_load (k : Nat) (rest : List am_E) (ls st : List am_V) (h : am_H) : am_R := match am_nth ls k with
  | some (.inl x) => rec rest ls (Vi x :: st) h
  | _ => none
def am_loada (k : Nat) (rest : List am_E) (ls st : List am_V) (h : am_H) : am_R := match am_nth ls k with
  | some (.inr (.inl r)) => rec rest ls (Vr r :: st) h
  | some (.inr (.inr (.inr (j + 1)))) => rec rest ls (Vx (j + 1) :: st) h
  | _ => none
def am_store (k : Nat) (rest : List am_E) (ls st : List am_V) (h : am_H) : am_R := match st with
  | .inl x :: r => rec rest (am_set ls k (Vi x)) r h
  | _ => none
def am_storea (k : Nat) (rest : List am_E) (ls st : List am_V) (h : am_H) : am_R := match st with
  | .inr (.inl x) :: r => rec rest (am_set ls k (Vr x)) r h
  | .inr (.inr (.inr j)) :: r => rec rest (am_set ls k (Vx j)) r h
  | _ => none
/-- what is thrown by a call at pc: caught here, or out -/
def am_hx (pc : Nat) (ls : List am_V) : Nat → am_H → am_R := fun e h1 => match am_find hd pc e with
  | none => some (.inr e, h1)
  | some t => jump t ls [Vx 0] h1
def am_nl : am_V → Bool
  | .inr (.inr (.inl _)) => false
  | _ => true
def am_cat : am_V → Nat
  | .inr (.inr (.inl _)) => 2
  | _ => 1
/-- n values are there, none a long; little lies below -/
def am_can (n : Nat) (st : List am_V) : Bool := Nat.ble n st.length && ((st.take n).all am_nl && Nat.ble ((st.drop n).map am_cat).sum 8)
/-- a call: xs = kind (0 a method of the program, 5 a nest mate's constructor, 1 Object's constructor, 2 arraycopy, 3 clone, 4 one of a literal), which, how many values, what it answers (0 none, 1 an int, 2 a reference), the receiver's class and 1 (0: none) -/
def am_inv (pc : Nat) (xs : List Int) (rest : List am_E) (ls st : List am_V) (h : am_H) : am_R :=
  let x : Nat → am_H → am_R := am_hx hd jump pc ls
  let n := (am_arg xs 2).toNat
  let go : am_R := match (am_arg xs 3).toNat with
    | 0 => clV (call (am_arg xs 1).toNat (st.take n).reverse h) x (fun h1 => rec rest ls (st.drop n) h1)
    | 1 => clI (call (am_arg xs 1).toNat (st.take n).reverse h) x (fun v h1 => rec rest ls (Vi v :: st.drop n) h1)
    | _ => clP (call (am_arg xs 1).toNat (st.take n).reverse h) x (fun v h1 => rec rest ls (Vr v :: st.drop n) h1)
  let any : am_R := if am_can n st = true then (match (am_arg xs 4).toNat with
    | 0 => go
    | ci + 1 => match (st.take n).reverse with
      | v :: _ => am_rcv ci h v go
      | [] => none) else none
  let mk : am_R := if am_can n st = true then (match (am_arg xs 4).toNat with
    | 0 => none
    | ci + 1 => match (st.take n).reverse with
      | v :: _ => am_rcv ci h v (clV (call (am_arg xs 1).toNat (st.take n).reverse h) am_xn0 (fun h1 => rec rest ls (st.drop n) h1))
      | [] => none) else none
  match (am_arg xs 0).toNat with
  | 0 => any
  | 5 => mk
  | 6 => mk
  | 1 => match st with
    | .inr (.inl (some _)) :: r => if Nat.ble (r.map am_cat).sum 8 = true then rec rest ls r h else none
    | _ => none
  | 2 => match st with
    | [.inl n, .inl dp, .inr (.inl q), .inl sp, .inr (.inl p)] => cpA h p sp q dp n (fun h1 => rec rest ls [] h1)
    | _ => none
  | 3 => match st with
    | [.inr (.inl p)] => clA h p (fun q h1 => rec rest ls [Vr q] h1)
    | _ => none
  | 7 => none
  | _ => if am_can n st = true then (match (st.take n).reverse with
      | .inr (.inr (.inr j)) :: _ => if 2 ≤ j ∧ j < 25 then go else none
      | _ => none) else none
def am_step (sfx : List am_E) (ls st : List am_V) (h : am_H) : am_R := match sfx with
  | [] => none
  | (pc, len, I, xs) :: rest => match I with
    | .nop => am_to cd jump rec xs 0 ls st h
    | .iconst n => rec rest ls (Vi n :: st) h
    | .bipush n => rec rest ls (Vi n :: st) h
    | .sipush n => rec rest ls (Vi n :: st) h
    | .ldc _ => if am_arg xs 0 = 0 then rec rest ls (Vi (am_arg xs 1) :: st) h else rec rest ls (Vx (am_arg xs 1).toNat :: st) h
    | .ldc_w _ => if am_arg xs 0 = 0 then rec rest ls (Vi (am_arg xs 1) :: st) h else rec rest ls (Vx (am_arg xs 1).toNat :: st) h
    | .lconst n => rec rest ls (Vl (n : Nat) :: st) h
    | .aconst_null => rec rest ls (Vr none :: st) h
    | .iload_n k => am_load rec k rest ls st h
    | .iload k => am_load rec k rest ls st h
    | .aload_n k => am_loada rec k rest ls st h
    | .aload k => am_loada rec k rest ls st h
    | .istore_n k => am_store rec k rest ls st h
    | .istore k => am_store rec k rest ls st h
    | .astore_n k => am_storea rec k rest ls st h
    | .astore k => am_storea rec k rest ls st h
    | .iinc k n => match am_nth ls k with
      | some (.inl x) => rec rest (am_set ls k (Vi (w32 (x + n)))) st h
      | _ => none
    | .iadd => am_bin st fun x y r => rec rest ls (Vi (w32 (x + y)) :: r) h
    | .isub => am_bin st fun x y r => rec rest ls (Vi (w32 (x - y)) :: r) h
    | .imul => am_bin st fun x y r => rec rest ls (Vi (w32 (x * y)) :: r) h
    | .idiv => am_bin st fun x y r => if y = 0 then none else rec rest ls (Vi (w32 (x.tdiv y)) :: r) h
    | .irem => am_bin st fun x y r => if y = 0 then none else rec rest ls (Vi (x.tmod y) :: r) h
    | .iand => am_bin st fun x y r => rec rest ls (Vi (bAnd x y) :: r) h
    | .ior => am_bin st fun x y r => rec rest ls (Vi (bOr x y) :: r) h
    | .ixor => am_bin st fun x y r => rec rest ls (Vi (bXor x y) :: r) h
    | .ishl => am_bin st fun x y r => rec rest ls (Vi (bShl x y) :: r) h
    | .ishr => am_bin st fun x y r => rec rest ls (Vi (bShr x y) :: r) h
    | .iushr => am_bin st fun x y r => rec rest ls (Vi (bUshr x y) :: r) h
    | .ineg => am_un st fun x r => rec rest ls (Vi (w32 (-x)) :: r) h
    | .i2b => am_un st fun x r => rec rest ls (Vi (bI2b x) :: r) h
    | .i2c => am_un st fun x r => rec rest ls (Vi (bI2c x) :: r) h
    | .i2l => am_un st fun x r => rec rest ls (Vl x :: r) h
    | .lcmp => match st with
      | .inr (.inr (.inl y)) :: .inr (.inr (.inl x)) :: r => rec rest ls (Vi (if y < x then 1 else if x = y then 0 else -1) :: r) h
      | _ => none
    | .dup => match st with
      | .inl x :: r => rec rest ls (Vi x :: Vi x :: r) h
      | .inr (.inl x) :: r => rec rest ls (Vr x :: Vr x :: r) h
      | _ => none
    | .dup2 => match st with
      | .inl i :: .inr (.inl x) :: r => rec rest ls (Vi i :: Vr x :: Vi i :: Vr x :: r) h
      | _ => none
    | .pop => match st with
      | .inl _ :: r => rec rest ls r h
      | .inr (.inl _) :: r => rec rest ls r h
      | _ => none
    | .ifCond c _ => am_un st fun x r => am_if c x 0 (am_to cd jump rec xs 0 ls r h) (rec rest ls r h)
    | .if_icmp c _ => am_bin st fun x y r => am_if c x y (am_to cd jump rec xs 0 ls r h) (rec rest ls r h)
    | .ifnull _ => match st with
      | .inr (.inl none) :: r => am_to cd jump rec xs 0 ls r h
      | .inr (.inl (some _)) :: r => rec rest ls r h
      | _ => none
    | .ifnonnull _ => match st with
      | .inr (.inl p) :: r => if p = none then rec rest ls r h else am_to cd jump rec xs 0 ls r h
      | _ => none
    | .goto _ => am_to cd jump rec xs 0 ls st h
    | .tableswitch _ lo hi _ => am_un st fun x r => am_sw x (fun j => am_to cd jump rec xs j ls r h) lo (hi + 1 - lo).toNat 1
    | .lookupswitch _ ps => am_un st fun x r => am_lk x (fun j => am_to cd jump rec xs j ls r h) ps.toList 1
    | .iaload => match st with
      | .inl i :: .inr (.inl p) :: r => ldA 1 h p i fun v => rec rest ls (Vi v :: r) h
      | .inl i :: .inr (.inr (.inr 1)) :: r => if 0 ≤ i ∧ i < sc.1 then rec rest ls (Vi (sc.2 i.toNat) :: r) h else none
      | _ => none
    | .laload => match st with
      | .inl i :: .inr (.inl p) :: r => ldA 4 h p i fun v => rec rest ls (Vl v :: r) h
      | _ => none
    | .baload => match st with
      | .inl i :: .inr (.inl p) :: r => ldB h p i fun v => rec rest ls (Vi v :: r) h
      | .inl i :: .inr (.inr (.inr j)) :: r => if 200 ≤ j ∧ 0 ≤ i ∧ i < (lt (j - 200)).length then rec rest ls (Vi ((lt (j - 200)).getD i.toNat 0) :: r) h else none
      | _ => none
    | .aaload => match st with
      | .inl i :: .inr (.inl p) :: r => ldP (am_arg xs 0).toNat h p i fun v => rec rest ls (Vr v :: r) h
      | _ => none
    | .iastore => match st with
      | .inl v :: .inl i :: .inr (.inl p) :: r => stA 1 h p i v fun h1 => rec rest ls r h1
      | _ => none
    | .lastore => match st with
      | .inr (.inr (.inl v)) :: .inl i :: .inr (.inl p) :: r => stA 4 h p i v fun h1 => rec rest ls r h1
      | _ => none
    | .bastore => match st with
      | .inl v :: .inl i :: .inr (.inl p) :: r => stB h p i v fun h1 => rec rest ls r h1
      | _ => none
    | .aastore => match st with
      | .inr (.inl v) :: .inl i :: .inr (.inl p) :: r => stP (am_arg xs 0).toNat h p i v fun h1 => rec rest ls r h1
      | _ => none
    | .arraylength => match st with
      | .inr (.inl p) :: r => lenA h p fun v => rec rest ls (Vi v :: r) h
      | .inr (.inr (.inr 1)) :: r => rec rest ls (Vi sc.1 :: r) h
      | .inr (.inr (.inr j)) :: r => if 200 ≤ j ∧ j < 223 then rec rest ls (Vi (lt (j - 200)).length :: r) h else none
      | _ => none
    | .getfield _ => match (am_arg xs 0).toNat, st with
      | 0, .inr (.inl p) :: r => gfI (am_arg xs 1).toNat (am_arg xs 2).toNat h p fun v => rec rest ls (Vi v :: r) h
      | 1, .inr (.inl p) :: r => gfP (am_arg xs 1).toNat (am_arg xs 2).toNat h p fun v => rec rest ls (Vr v :: r) h
      | 2, .inr (.inr (.inr j)) :: r => if 2 ≤ j ∧ j < 25 then rec rest ls (Vx (j + 198) :: r) h else none
      | 3, .inr (.inr (.inr j)) :: r => if 2 ≤ j ∧ j < 25 then rec rest ls (Vi 0 :: r) h else none
      | _, _ => none
    | .putfield _ => match (am_arg xs 0).toNat, st with
      | 2, .inr (.inl v) :: .inr (.inl p) :: r => pfP (am_arg xs 1).toNat (am_arg xs 2).toNat h p v fun h1 => rec rest ls r h1
      | 0, .inl v :: .inr (.inl p) :: r => pfI 0 (am_arg xs 1).toNat (am_arg xs 2).toNat h p v fun h1 => rec rest ls r h1
      | 1, .inl v :: .inr (.inl p) :: r => pfI 1 (am_arg xs 1).toNat (am_arg xs 2).toNat h p v fun h1 => rec rest ls r h1
      | _, _ => none
    | .getstatic _ => if am_arg xs 0 = 0 then rec rest ls (Vi 1 :: st) h else rec rest ls (Vx 0 :: st) h
    | .new _ => if am_arg xs 0 = 0 then rec rest ls (Vr (some (hZ h)) :: st) (am_new h 0 (am_arg xs 1).toNat (am_arg xs 2).toNat) else if Nat.ble (st.map am_cat).sum 100 = true then some (.inr (am_arg xs 1).toNat, am_ex h) else none
    | .newarray _ => am_un st fun n r => newA (am_arg xs 0).toNat h n fun q h1 => rec rest ls (Vr q :: r) h1
    | .anewarray _ => am_un st fun n r => newA 5 h n fun q h1 => rec rest ls (Vr q :: r) h1
    | .multianewarray _ _ => match st with
      | .inl m :: .inl n :: r => newG h n m fun q h1 => rec rest ls (Vr q :: r) h1
      | _ => none
    | .checkcast _ => match st with
      | .inr (.inl p) :: r => castA h p (rec rest ls (Vr p :: r) h)
      | _ => none
    | .invokevirtual _ => am_inv hd call jump rec pc xs rest ls st h
    | .invokespecial _ => am_inv hd call jump rec pc xs rest ls st h
    | .invokestatic _ => am_inv hd call jump rec pc xs rest ls st h
    | .ireturn => match st with
      | [.inl x] => am_ret (am_arg xs 0) x h
      | _ => none
    | .areturn => match st with
      | [.inr (.inl p)] => retP h p
      | _ => none
    | .return_ => match st with
      | [] => some (.inl (Vx 0), h)
      | _ => none
    | _ => none
def am_go : Nat → am_K
  | 0 => fun _ _ _ _ => none
  | f + 1 => am_step sc lt cd hd call jump (am_go f)
end
