/-! A LAW'S TEXT: what a good reading leaves -/
def Ga (A : Nat → Int) (L b : Nat) (at_ : Nat → am_Cs → Nat × Option am_Cs) : Prop := ∀ q cs, TQ A L q → Gd A L (q + 1) q cs.1 cs (fun ts => ts) (fun ts => true :: ts) b (at_ q cs)
section
variable {A : Nat → Int} {L q b F : Nat} {cs : am_Cs} {at_ : Nat → am_Cs → Nat × Option am_Cs}
theorem Gd.no {p q0 m n0 : Nat} {ti to : List Bool → List Bool} : Gd A L q0 m n0 cs ti to b (p, none) := fun _ z => by cases z
theorem suL_1 (t : TQ A L q) : Gd A L (q + 1) q cs.1 cs (fun ts => ts) (fun ts => false :: ts) 3 (suL A L (L + 1) true q cs) := suL_g (L + 1) true q cs t
theorem cmR_g : Ga A L 4 (cmR A L) := by
  intro q cs t
  unfold cmR
  have g1 := suL_1 (cs := cs) t
  rcases e1 : suL A L (L + 1) true q cs with ⟨q1, _ | c1⟩
  · exact Gd.no
  · rw [e1] at g1
    obtain ⟨x1, x2, x3, x4, x5⟩ := g1 c1 rfl
    dsimp only at x1 x2 x3
    rw [bnR_so]
    have go : ∀ {c : Int} {u : Int × Int}, thT A L q1 = c → c ≠ -1 → (∀ ts, t1 u.1 u.2 (false :: false :: ts) = some (true :: ts)) → Gd A L (q + 1) q cs.1 cs (fun ts => ts) (fun ts => true :: ts) 4 (bnR (suL A L (L + 1) true (nxT A L q1) c1) (fun q2 cs2 => (q2, some (emC cs2 u)))) := by
      intro c u h1 h2 h3
      obtain ⟨a1, a2⟩ := nx_b x2 (by rw [h1]; exact h2)
      have g2 := suL_1 (cs := c1) a2
      rcases e2 : suL A L (L + 1) true (nxT A L q1) c1 with ⟨q2, _ | c2⟩
      · exact Gd.no
      · rw [e2] at g2
        obtain ⟨y1, y2, y3, y4, y5⟩ := g2 c2 rfl
        dsimp only at y1 y2 y3
        rw [bnR_so]
        intro cs' z
        cases z
        refine ⟨by dsimp only; omega, y2, ?_, (x4.tr y4).tr Exx.em, fun ts hts => ?_⟩
        · show c2.1 + 1 + q ≤ cs.1 + q2
          omega
        · exact (x4.tr y4).tr' Exx.em (x4.tr' y4 (x5 ts (by omega)) (y5 (false :: ts) (by show ts.length + 1 + 3 ≤ 32; omega))) (Tyy.em (by show ts.length + 1 + 1 ≤ 31; omega) (h3 ts))
    by_cases h1 : thT A L q1 = -28
    · rw [if_pos h1]
      exact go h1 (by decide) (fun _ => rfl)
    · rw [if_neg h1]
      by_cases h2 : thT A L q1 = -29
      · rw [if_pos h2]
        exact go h2 (by decide) (fun _ => rfl)
      · rw [if_neg h2]
        exact Gd.no
theorem leR_g {b : Nat} (hb : 4 ≤ b) : Ga A L b (leR A L) := by
  intro q cs t
  unfold leR
  by_cases h : -25 ≤ thT A L q ∧ thT A L q ≤ -23
  · rw [if_pos h]
    obtain ⟨a1, a2⟩ := nx_b t (by omega)
    intro cs' z
    cases z
    refine ⟨a1, a2, ?_, Exx.em, fun ts hts => Tyy.em (by show ts.length ≤ 31; omega) (t1_t h)⟩
    show cs.1 + 1 + q ≤ cs.1 + nxT A L q
    omega
  · rw [if_neg h]
    intro cs' z
    obtain ⟨x1, x2, x3, x4, x5⟩ := cmR_g q cs t cs' z
    exact ⟨x1, x2, x3, x4, fun ts hts => x5 ts (by omega)⟩
def duL (due : Bool) (ts : List Bool) : List Bool := if due = true then true :: true :: ts else true :: ts
def duN (due : Bool) : Nat := if due = true then 1 else 0
theorem oC_g {due : Bool} : Exx cs (oC due cs) ∧ (oC due cs).1 = cs.1 + duN due ∧ ∀ ts, ts.length + 2 ≤ 31 → Tyy cs (oC due cs) (duL due ts) (true :: ts) := by
  cases due
  · exact ⟨Exx.rf cs, rfl, fun ts _ => Tyy.rf⟩
  · exact ⟨Exx.em, rfl, fun ts hts => Tyy.em (cs := cs) (p := (15, 0)) (ts := true :: true :: ts) (by show ts.length + 1 + 1 ≤ 31; omega) rfl⟩
theorem cdL_g (g : Ga A L b at_) (hb : 4 ≤ b) : ∀ F due q cs, TQ A L q → Gd A L q q (cs.1 + duN due) cs (duL due) (fun ts => true :: ts) (b + 2) (cdL A L at_ F due q cs)
  | 0, _, _, _, _ => Gd.no
  | F + 1, due, q, cs, t => by
    unfold cdL
    obtain ⟨o1, o2, o3⟩ := oC_g (cs := cs) (due := due)
    by_cases h1 : thT A L q = -30
    · rw [if_pos h1]
      obtain ⟨a1, a2⟩ := nx_b t (by omega)
      have g1 := g (nxT A L q) cs a2
      rcases e1 : at_ (nxT A L q) cs with ⟨q1, _ | c1⟩
      · exact Gd.no
      · rw [e1] at g1
        obtain ⟨x1, x2, x3, x4, x5⟩ := g1 c1 rfl
        dsimp only at x1 x2 x3
        rw [bnR_so]
        intro cs' z
        obtain ⟨y1, y2, y3, y4, y5⟩ := cdL_g g hb F due q1 (emC c1 (14, 0)) x2 cs' z
        have y3 : cs'.1 + q1 ≤ (c1.1 + 1 + duN due) + (cdL A L at_ F due q1 (emC c1 (14, 0))).1 := y3
        refine ⟨by omega, y2, by omega, (x4.tr Exx.em).tr y4, fun ts hts => ?_⟩
        have hd : (duL due ts).length ≤ ts.length + 2 := by
          cases due
          · exact Nat.le_succ _
          · exact Nat.le_refl _
        have em : Tyy c1 (emC c1 (14, 0)) (true :: duL due ts) (duL due ts) := by
          refine Tyy.em (by show (duL due ts).length + 1 ≤ 31; omega) ?_
          cases due <;> rfl
        exact (x4.tr Exx.em).tr' y4 (x4.tr' Exx.em (x5 _ (by omega)) em) (y5 ts hts)
    · rw [if_neg h1]
      by_cases h2 : thT A L q = -31
      · rw [if_pos h2]
        obtain ⟨a1, a2⟩ := nx_b t (by omega)
        have g1 := g (nxT A L q) (oC due cs) a2
        rcases e1 : at_ (nxT A L q) (oC due cs) with ⟨q1, _ | c1⟩
        · exact Gd.no
        · rw [e1] at g1
          obtain ⟨x1, x2, x3, x4, x5⟩ := g1 c1 rfl
          dsimp only at x1 x2 x3
          rw [o2] at x3
          rw [bnR_so]
          intro cs' z
          obtain ⟨y1, y2, y3, y4, y5⟩ := cdL_g g hb F true q1 c1 x2 cs' z
          have y3 : cs'.1 + q1 ≤ (c1.1 + 1) + (cdL A L at_ F true q1 c1).1 := y3
          refine ⟨by omega, y2, by omega, (o1.tr x4).tr y4, fun ts hts => ?_⟩
          exact (o1.tr x4).tr' y4 (o1.tr' x4 (o3 ts (by omega)) (x5 (true :: ts) (by show ts.length + 1 + b ≤ 32; omega))) (y5 ts hts)
      · rw [if_neg h2]
        intro cs' z
        cases z
        refine ⟨Nat.le_refl _, t, ?_, o1, fun ts hts => o3 ts (by omega)⟩
        show (oC due cs).1 + q ≤ _
        rw [o2]
        exact Nat.le_refl _
theorem coR_g (g : Ga A L b at_) (hb : 4 ≤ b) : Ga A L (b + 2) (coR A L at_) := by
  intro q cs t
  unfold coR
  have g1 := g q cs t
  rcases e1 : at_ q cs with ⟨q1, _ | c1⟩
  · exact Gd.no
  · rw [e1] at g1
    obtain ⟨x1, x2, x3, x4, x5⟩ := g1 c1 rfl
    dsimp only at x1 x2 x3
    rw [bnR_so]
    intro cs' z
    obtain ⟨y1, y2, y3, y4, y5⟩ := cdL_g g hb (L + 1) false q1 c1 x2 cs' z
    have y3 : cs'.1 + q1 ≤ (c1.1 + 0) + (cdL A L at_ (L + 1) false q1 c1).1 := y3
    exact ⟨by omega, y2, by omega, x4.tr y4, fun ts hts => x4.tr' y4 (x5 ts (by omega)) (y5 ts hts)⟩
theorem rdA_g : ∀ k, Ga A L (4 + 2 * k) (rdA A L k)
  | 0 => leR_g (Nat.le_refl _)
  | k + 1 => by
    intro q cs t
    unfold rdA
    by_cases h1 : thT A L q = -26
    · rw [if_pos h1]
      obtain ⟨a1, a2⟩ := nx_b t (by omega)
      have g1 := rdA_g k (nxT A L q) cs a2
      rcases e1 : rdA A L k (nxT A L q) cs with ⟨q1, _ | c1⟩
      · exact Gd.no
      · rw [e1] at g1
        obtain ⟨x1, x2, x3, x4, x5⟩ := g1 c1 rfl
        dsimp only at x1 x2 x3
        rw [bnR_so]
        intro cs' z
        cases z
        refine ⟨by dsimp only; omega, x2, ?_, x4.tr Exx.em, fun ts hts => x4.tr' Exx.em (x5 ts (by omega)) (Tyy.em (by show ts.length + 1 ≤ 31; omega) rfl)⟩
        show c1.1 + 1 + q ≤ cs.1 + q1
        omega
    · rw [if_neg h1]
      by_cases h2 : thT A L q = -4
      · rw [if_pos h2]
        obtain ⟨a1, a2⟩ := nx_b t (by omega)
        have g1 := coR_g (rdA_g k) (by omega) (nxT A L q) cs a2
        rcases e1 : coR A L (rdA A L k) (nxT A L q) cs with ⟨q1, _ | c1⟩
        · exact Gd.no
        · rw [e1] at g1
          obtain ⟨x1, x2, x3, x4, x5⟩ := g1 c1 rfl
          dsimp only at x1 x2 x3
          rw [bnR_so]
          by_cases h3 : thT A L q1 = -5
          · rw [if_pos h3]
            obtain ⟨b1, b2⟩ := nx_b x2 (by omega)
            intro cs' z
            cases z
            exact ⟨by dsimp only; omega, b2, by dsimp only; omega, x4, fun ts hts => x5 ts (by omega)⟩
          · rw [if_neg h3]
            exact Gd.no
      · rw [if_neg h2]
        exact leR_g (by omega) q cs t
/-- a line: its kind and its number in bounds, its codes of one kind -/
theorem rdLL_g (t : TQ A L q) {r : Nat × Option ((Int × Int) × am_Cs)} (e : rdLL A L q cs = r) {x : Int × Int} {cs' : am_Cs} (h : r.2 = some (x, cs')) : q + 1 ≤ r.1 ∧ TQ A L r.1 ∧ cs'.1 + q + 1 ≤ cs.1 + r.1 ∧ Exx cs cs' ∧ (0 ≤ x.1 ∧ x.1 ≤ 2) ∧ (0 ≤ x.2 ∧ x.2 ≤ 60) ∧ (Tyy cs cs' [] [] ∨ Tyy cs cs' [] [true]) := by
  subst e
  unfold rdLL at h ⊢
  by_cases h1 : -15 ≤ thT A L q ∧ thT A L q ≤ -13
  · rw [if_pos h1] at h ⊢
    obtain ⟨a1, a2⟩ := nx_b t (by omega)
    by_cases h2 : 0 ≤ thT A L (nxT A L q) ∧ thT A L (nxT A L q) ≤ 60
    · rw [if_pos h2] at h ⊢
      obtain ⟨b1, b2⟩ := nx_b a2 (by omega)
      by_cases h3 : thT A L (nxT A L (nxT A L q)) = -16
      · rw [if_pos h3] at h ⊢
        obtain ⟨c1, c2⟩ := nx_b b2 (by omega)
        have g1 := coR_g (rdA_g 6) (by omega) (nxT A L (nxT A L (nxT A L q))) cs c2
        rcases e1 : coR A L (rdA A L 6) (nxT A L (nxT A L (nxT A L q))) cs with ⟨q1, _ | c9⟩
        · rw [e1] at h
          cases h
        · rw [e1] at g1 h
          obtain ⟨x1, x2, x3, x4, x5⟩ := g1 c9 rfl
          dsimp only at x1 x2 x3
          rw [bnR_so] at h ⊢
          cases h
          exact ⟨by dsimp only; omega, x2, by dsimp only; omega, x4, by dsimp only; omega, h2, Or.inr (x5 [] (by decide))⟩
      · rw [if_neg h3] at h ⊢
        cases h
        exact ⟨by dsimp only; omega, b2, by dsimp only; omega, Exx.rf _, by dsimp only; omega, h2, Or.inl Tyy.rf⟩
    · rw [if_neg h2] at h
      cases h
  · rw [if_neg h1] at h
    cases h
end
