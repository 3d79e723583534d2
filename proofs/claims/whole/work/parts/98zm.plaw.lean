/-! A LAW'S TEXT: pure -/
abbrev am_Cs : Type := Nat × (Nat → Int × Int)
def emC (cs : am_Cs) (p : Int × Int) : am_Cs := (cs.1 + 1, fun i => if i = cs.1 then p else cs.2 i)
def cdT (t : Int) : Int × Int := if 0 ≤ t then (9, t) else (-17 - t, 0)
def plC (fst : Bool) (cs : am_Cs) (t : Int) : am_Cs := if fst = true then emC cs (cdT t) else emC (emC cs (cdT t)) (10, 0)
def oC (due : Bool) (cs : am_Cs) : am_Cs := if due = true then emC cs (15, 0) else cs
def bnR {α β : Type} (r : Nat × Option α) (k : Nat → α → Nat × Option β) : Nat × Option β := match r with
  | (p, none) => (p, none)
  | (p, some a) => k p a
def suL (A : Nat → Int) (L : Nat) : Nat → Bool → Nat → am_Cs → Nat × Option am_Cs
  | 0, _, q, _ => (q, none)
  | F + 1, fst, q, cs => if (0 ≤ thT A L q ∧ thT A L q ≤ 999) ∨ (-22 ≤ thT A L q ∧ thT A L q ≤ -17) then (if thT A L (nxT A L q) = -27 then suL A L F false (nxT A L (nxT A L q)) (plC fst cs (thT A L q)) else (nxT A L q, some (plC fst cs (thT A L q)))) else (q, none)
def cmR (A : Nat → Int) (L q : Nat) (cs : am_Cs) : Nat × Option am_Cs := bnR (suL A L (L + 1) true q cs) fun q1 cs1 => if thT A L q1 = -28 then bnR (suL A L (L + 1) true (nxT A L q1) cs1) (fun q2 cs2 => (q2, some (emC cs2 (11, 0)))) else if thT A L q1 = -29 then bnR (suL A L (L + 1) true (nxT A L q1) cs1) (fun q2 cs2 => (q2, some (emC cs2 (12, 0)))) else (q1, none)
def leR (A : Nat → Int) (L q : Nat) (cs : am_Cs) : Nat × Option am_Cs := if -25 ≤ thT A L q ∧ thT A L q ≤ -23 then (nxT A L q, some (emC cs (cdT (thT A L q)))) else cmR A L q cs
def cdL (A : Nat → Int) (L : Nat) (at_ : Nat → am_Cs → Nat × Option am_Cs) : Nat → Bool → Nat → am_Cs → Nat × Option am_Cs
  | 0, _, q, _ => (q, none)
  | F + 1, due, q, cs => if thT A L q = -30 then bnR (at_ (nxT A L q) cs) (fun q1 cs1 => cdL A L at_ F due q1 (emC cs1 (14, 0))) else if thT A L q = -31 then bnR (at_ (nxT A L q) (oC due cs)) (fun q1 cs1 => cdL A L at_ F true q1 cs1) else (q, some (oC due cs))
def coR (A : Nat → Int) (L : Nat) (at_ : Nat → am_Cs → Nat × Option am_Cs) (q : Nat) (cs : am_Cs) : Nat × Option am_Cs := bnR (at_ q cs) (fun q1 cs1 => cdL A L at_ (L + 1) false q1 cs1)
def rdA (A : Nat → Int) (L : Nat) : Nat → Nat → am_Cs → Nat × Option am_Cs
  | 0, q, cs => leR A L q cs
  | k + 1, q, cs => if thT A L q = -26 then bnR (rdA A L k (nxT A L q) cs) (fun q1 cs1 => (q1, some (emC cs1 (13, 0)))) else if thT A L q = -4 then bnR (coR A L (rdA A L k) (nxT A L q) cs) (fun q1 cs1 => if thT A L q1 = -5 then (nxT A L q1, some cs1) else (q1, none)) else leR A L q cs
/-- a line: its kind, its number, the codes behind it -/
def rdLL (A : Nat → Int) (L q : Nat) (cs : am_Cs) : Nat × Option ((Int × Int) × am_Cs) := if -15 ≤ thT A L q ∧ thT A L q ≤ -13 then (if 0 ≤ thT A L (nxT A L q) ∧ thT A L (nxT A L q) ≤ 60 then (if thT A L (nxT A L (nxT A L q)) = -16 then bnR (coR A L (rdA A L 6) (nxT A L (nxT A L (nxT A L q))) cs) (fun q1 cs1 => (q1, some ((-13 - thT A L q, thT A L (nxT A L q)), cs1))) else (nxT A L (nxT A L q), some ((-13 - thT A L q, thT A L (nxT A L q)), cs))) else (nxT A L q, none)) else (q, none)
abbrev am_Ls : Type := Nat → (Int × Int) × Nat
def lsU (ls : am_Ls) (i : Nat) (x : Int × Int) (n : Nat) : am_Ls := fun k => if k = i then (x, n) else ls k
def laL (A : Nat → Int) (L : Nat) : Nat → Nat → Nat → am_Ls → am_Cs → Nat × Option (Nat × am_Ls × am_Cs)
  | 0, _, q, _, _ => (q, none)
  | k + 1, i, q, ls, cs => bnR (rdLL A L q cs) fun q1 x => if thT A L q1 = -1 then (q1, some (i + 1, lsU ls i x.1 x.2.1, x.2)) else if thT A L q1 = -3 then laL A L k (i + 1) (nxT A L q1) (lsU ls i x.1 x.2.1) x.2 else (q1, none)
def rdLaw (A : Nat → Int) (L : Nat) : Nat × Option (Nat × am_Ls × am_Cs) := if thT A L (blk A L 0) = -1 then (blk A L 0, some (0, (fun _ => ((0, 0), 0)), (0, fun _ => (0, 0)))) else laL A L 12 0 (blk A L 0) (fun _ => ((0, 0), 0)) (0, fun _ => (0, 0))
/-! kinds of what the codes leave -/
def tyR (f : Nat → Int × Int) (n : Nat) : Nat → List Bool → Option (List Bool)
  | 0, ts => some ts
  | k + 1, ts => match tyR f n k ts with
    | some u => if u.length ≤ 31 then t1 (f (n + k)).1 (f (n + k)).2 u else none
    | none => none
theorem tyR_cg {f g : Nat → Int × Int} {n : Nat} : ∀ k {ts : List Bool}, (∀ i, i < k → f (n + i) = g (n + i)) → tyR f n k ts = tyR g n k ts
  | 0, _, _ => rfl
  | k + 1, ts, e => by
    unfold tyR
    rw [tyR_cg k (fun i hi => e i (by omega)), e k (by omega)]
theorem tyR_add {f : Nat → Int × Int} {n a : Nat} {ts u : List Bool} (h : tyR f n a ts = some u) : ∀ b, tyR f n (a + b) ts = tyR f (n + a) b u
  | 0 => h
  | b + 1 => by
    show tyR f n ((a + b) + 1) ts = tyR f (n + a) (b + 1) u
    unfold tyR
    rw [tyR_add h b, show n + (a + b) = n + a + b by omega]
def Tyy (cs cs' : am_Cs) (ts u : List Bool) : Prop := tyR cs'.2 cs.1 (cs'.1 - cs.1) ts = some u
def Exx (cs cs' : am_Cs) : Prop := cs.1 ≤ cs'.1 ∧ ∀ i, i < cs.1 → cs'.2 i = cs.2 i
theorem Exx.rf (cs : am_Cs) : Exx cs cs := ⟨Nat.le_refl _, fun _ _ => rfl⟩
theorem Exx.tr {a b c : am_Cs} (x : Exx a b) (y : Exx b c) : Exx a c := ⟨Nat.le_trans x.1 y.1, fun i hi => (y.2 i (Nat.lt_of_lt_of_le hi x.1)).trans (x.2 i hi)⟩
theorem Exx.em {cs : am_Cs} {p : Int × Int} : Exx cs (emC cs p) := ⟨Nat.le_succ _, fun i hi => if_neg (by omega)⟩
theorem Tyy.rf {cs : am_Cs} {ts : List Bool} : Tyy cs cs ts ts := by
  unfold Tyy
  rw [Nat.sub_self]
  rfl
theorem Tyy.tr {a b c : am_Cs} {ts u v : List Bool} (x : Exx a b) (y : Exx b c) (t : Tyy a b ts u) (t2 : Tyy b c u v) : Tyy a c ts v := by
  unfold Tyy at t t2 ⊢
  have e1 : tyR c.2 a.1 (b.1 - a.1) ts = some u := by
    rw [tyR_cg (g := b.2) (b.1 - a.1) (fun i hi => y.2 _ (by omega))]
    exact t
  have h1 := x.1
  have h2 := y.1
  rw [show c.1 - a.1 = (b.1 - a.1) + (c.1 - b.1) by omega, tyR_add e1, show a.1 + (b.1 - a.1) = b.1 by omega]
  exact t2
theorem Exx.tr' {a b c : am_Cs} {ts u v : List Bool} (x : Exx a b) (y : Exx b c) (t : Tyy a b ts u) (t2 : Tyy b c u v) : Tyy a c ts v := Tyy.tr x y t t2
theorem Tyy.em {cs : am_Cs} {p : Int × Int} {ts u : List Bool} (h : ts.length ≤ 31) (h1 : t1 p.1 p.2 ts = some u) : Tyy cs (emC cs p) ts u := by
  have e : (emC cs p).2 (cs.1 + 0) = p := if_pos (Nat.add_zero _)
  unfold Tyy
  rw [show (emC cs p).1 - cs.1 = 0 + 1 from Nat.add_sub_cancel_left _ _]
  unfold tyR
  show (if ts.length ≤ 31 then t1 ((emC cs p).2 (cs.1 + 0)).1 ((emC cs p).2 (cs.1 + 0)).2 ts else none) = some u
  rw [if_pos h, e]
  exact h1
/-- what a good reading leaves -/
def Gd (A : Nat → Int) (L q0 m n0 : Nat) (cs : am_Cs) (ti to : List Bool → List Bool) (b : Nat) (r : Nat × Option am_Cs) : Prop := ∀ cs', r.2 = some cs' → q0 ≤ r.1 ∧ TQ A L r.1 ∧ cs'.1 + m ≤ n0 + r.1 ∧ Exx cs cs' ∧ ∀ ts, ts.length + b ≤ 32 → Tyy cs cs' (ti ts) (to ts)
section
variable {A : Nat → Int} {L q b F : Nat} {cs : am_Cs}
theorem nx_b (t : TQ A L q) (h : thT A L q ≠ -1) : q < nxT A L q ∧ TQ A L (nxT A L q) := by
  have hq : q < L := by
    have := (th_end t).mpr
    have := t.1
    omega
  have := nxT_b (A := A) hq
  exact ⟨this.1, this.2.2⟩
theorem bnR_no {α β : Type} {p : Nat} {k : Nat → α → Nat × Option β} : bnR (p, none) k = (p, none) := rfl
theorem bnR_so {α β : Type} {p : Nat} {a : α} {k : Nat → α → Nat × Option β} : bnR (p, some a) k = k p a := rfl
/-- the kind of a part or a tag -/
theorem cdT_0 {t : Int} (h : 0 ≤ t) : cdT t = (9, t) := if_pos h
theorem cdT_1 {t : Int} (h : t < 0) : cdT t = (-17 - t, 0) := if_neg (by omega)
theorem t1_p {t : Int} (h : (0 ≤ t ∧ t ≤ 999) ∨ (-22 ≤ t ∧ t ≤ -17)) {ts : List Bool} : t1 (cdT t).1 (cdT t).2 ts = some (false :: ts) := by
  by_cases h0 : 0 ≤ t
  · rw [cdT_0 h0]
    show t1 9 t ts = _
    unfold t1
    rw [if_neg (by decide), if_pos rfl, if_pos (by omega)]
  · rw [cdT_1 (by omega)]
    show t1 (-17 - t) 0 ts = _
    unfold t1
    rw [if_pos (by omega)]
theorem t1_t {t : Int} (h : -25 ≤ t ∧ t ≤ -23) {ts : List Bool} : t1 (cdT t).1 (cdT t).2 ts = some (true :: ts) := by
  rw [cdT_1 (by omega)]
  show t1 (-17 - t) 0 ts = _
  unfold t1
  rw [if_neg (by omega), if_neg (by omega), if_pos (by omega)]
theorem tr_c {t : Int} (h : t ≤ 999) (h2 : -25 ≤ t) : tr (cdT t).1 (cdT t).2 = t := by
  by_cases h0 : 0 ≤ t
  · rw [cdT_0 h0]
    rfl
  · rw [cdT_1 (by omega)]
    show tr (-17 - t) 0 = t
    unfold tr
    rw [if_pos (by omega)]
    omega
def fsL (fst : Bool) (ts : List Bool) : List Bool := if fst = true then ts else false :: ts
theorem plC_g {fst : Bool} {t : Int} (h : (0 ≤ t ∧ t ≤ 999) ∨ (-22 ≤ t ∧ t ≤ -17)) : Exx cs (plC fst cs t) ∧ (plC fst cs t).1 = cs.1 + (if fst = true then 1 else 2) ∧ ∀ ts, ts.length + 3 ≤ 32 → Tyy cs (plC fst cs t) (fsL fst ts) (false :: ts) := by
  unfold plC fsL
  cases fst
  · rw [if_neg (by decide), if_neg (by decide)]
    refine ⟨Exx.em.tr Exx.em, rfl, fun ts hts => ?_⟩
    rw [if_neg (by decide)]
    exact Exx.em.tr' Exx.em (Tyy.em (by show ts.length + 1 ≤ 31; omega) (t1_p h)) (Tyy.em (by show ts.length + 1 + 1 ≤ 31; omega) rfl)
  · rw [if_pos rfl, if_pos rfl]
    refine ⟨Exx.em, rfl, fun ts hts => ?_⟩
    rw [if_pos rfl]
    exact Tyy.em (by omega) (t1_p h)
theorem suL_g : ∀ F fst q cs, TQ A L q → Gd A L (q + 1) q (cs.1 + (if fst = true then 0 else 1)) cs (fsL fst) (fun ts => false :: ts) 3 (suL A L F fst q cs)
  | 0, _, _, _, _ => fun _ z => by cases z
  | F + 1, fst, q, cs, t => by
    intro cs' z
    unfold suL at z ⊢
    by_cases h1 : (0 ≤ thT A L q ∧ thT A L q ≤ 999) ∨ (-22 ≤ thT A L q ∧ thT A L q ≤ -17)
    · obtain ⟨x1, x2, x3⟩ := plC_g (fst := fst) (cs := cs) h1
      obtain ⟨a1, a2⟩ := nx_b t (by omega)
      rw [if_pos h1] at z ⊢
      by_cases h2 : thT A L (nxT A L q) = -27
      · obtain ⟨b1, b2⟩ := nx_b a2 (by omega)
        rw [if_pos h2] at z ⊢
        obtain ⟨y1, y2, y3, y4, y5⟩ := suL_g F false (nxT A L (nxT A L q)) (plC fst cs (thT A L q)) b2 cs' z
        refine ⟨by omega, y2, ?_, x1.tr y4, fun ts hts => ?_⟩
        · rw [x2] at y3
          cases fst
          · have y3 : cs'.1 + nxT A L (nxT A L q) ≤ (cs.1 + 2 + 1) + (suL A L F false (nxT A L (nxT A L q)) (plC false cs (thT A L q))).1 := y3
            show cs'.1 + q ≤ (cs.1 + 1) + (suL A L F false (nxT A L (nxT A L q)) (plC false cs (thT A L q))).1
            omega
          · have y3 : cs'.1 + nxT A L (nxT A L q) ≤ (cs.1 + 1 + 1) + (suL A L F false (nxT A L (nxT A L q)) (plC true cs (thT A L q))).1 := y3
            show cs'.1 + q ≤ (cs.1 + 0) + (suL A L F false (nxT A L (nxT A L q)) (plC true cs (thT A L q))).1
            omega
        · exact x1.tr' y4 (x3 ts hts) (y5 ts hts)
      · rw [if_neg h2] at z ⊢
        cases z
        refine ⟨by omega, a2, ?_, x1, fun ts hts => x3 ts hts⟩
        rw [x2]
        cases fst
        · show cs.1 + 2 + q ≤ (cs.1 + 1) + nxT A L q
          omega
        · show cs.1 + 1 + q ≤ (cs.1 + 0) + nxT A L q
          omega
    · rw [if_neg h1] at z
      cases z
end
