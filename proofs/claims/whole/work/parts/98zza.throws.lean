/-! WHAT A CALL CAN THROW, and that none writes the law's own row of longs -/
def exT : List (Nat × List Nat) := [(133, [1, 2]), (134, [1]), (136, [3, 4]), (137, [3]), (138, [3, 4]), (140, [1]), (141, [3, 5]), (142, [3, 5]), (143, [3, 5]), (144, [3, 5]), (145, [1, 3, 5]), (146, [3]), (147, [3]), (148, [1, 3]), (149, [1, 3]), (150, [3]), (151, [1, 3]), (152, [1, 3]), (153, [3]), (156, [3]), (157, [3]), (158, [1, 3]), (159, [1, 3]), (162, [1, 3]), (163, [3]), (164, [1, 3]), (165, [1]), (166, [1]), (167, [1, 3]), (168, [1]), (169, [1]), (172, [3]), (173, [1, 3]), (174, [1]), (175, [1]), (176, [1]), (177, [1]), (180, [1, 3]), (181, [1]), (182, [1]), (183, [3]), (184, [4]), (189, [3]), (190, [3]), (191, [3]), (192, [3]), (193, [1, 3]), (194, [1]), (195, [1]), (196, [5])]
def exS (m : Nat) : List Nat := match exT.find? (fun p => p.1 == m) with
  | some p => p.2
  | none => []
def okE (m : Nat) (x : am_E) : Bool := match x with
  | (_, _, I, xs) => match I with
    | .lastore => false
    | .new _ => if am_arg xs 0 = 0 then true else (exS m).contains (am_arg xs 1).toNat
    | .invokevirtual _ => decide ((am_arg xs 1).toNat < 386) && (exS (am_arg xs 1).toNat).all (fun e => (exS m).contains e)
    | .invokespecial _ => decide ((am_arg xs 1).toNat < 386) && (exS (am_arg xs 1).toNat).all (fun e => (exS m).contains e)
    | .invokestatic _ => decide ((am_arg xs 1).toNat < 386) && (exS (am_arg xs 1).toNat).all (fun e => (exS m).contains e)
    | _ => true
noncomputable def okM (m : Nat) : Bool := (am_at m).1.all (okE m) && decide ((am_at m).2.1 = [])
theorem okM_all : ∀ m : Nat, m < 386 → okM m = true := by
  have h : (List.range 386).all okM = true := by decide +kernel
  intro m hm
  exact List.all_eq_true.mp h m (List.mem_range.mpr hm)
