/-! PAIRS: the class, all put -/
theorem nn_up {P : Nat → Int} {f : Nat} {v : Int} (hf : f < 6) (h : P f = -1) (hv : v ≠ -1) : nn (fun x => decide (up P f v x ≠ -1)) 6 = nn (fun x => decide (P x ≠ -1)) 6 + 1 := by
  have h1 := nn_or (p := fun x => decide (P x ≠ -1)) (q := fun x => decide (x = f)) (N := 6) (fun b _ z => by
    try dsimp only at z
    rw [decide_eq_true_eq, decide_eq_true_eq] at z
    exact z.1 (by rw [z.2]; exact h))
  rw [nn_one hf (decide_eq_true rfl) (fun v _ z => of_decide_eq_true z)] at h1
  rw [h1]
  refine nn_cg (fun x _ => ?_)
  by_cases e : x = f
  · rw [e, up_s, decide_eq_true hv, decide_eq_true (rfl : f = f), Bool.or_true]
  · rw [up_o e, decide_eq_false e, Bool.or_false]
/-- what is put so far -/
def Pv (vp : Nat → Nat → Int) (W : Nat → Int) (n : Nat) (f S : Nat) (P : Nat → Int) : Prop := S < 2 ^ n ∧ (∀ k, k < 6 → tb S k = true → f ≤ k) ∧ (∀ x, x < n → (tb S x = true → prF vp W n x 64 (2 ^ n - 1) = prF vp W n x 64 S ∧ P x = -1) ∧ (tb S x = false → P x = prF vp W n x 64 (2 ^ n - 1))) ∧ (∀ x, x < 6 → n ≤ x → P x = -1) ∧ ∃ k : Nat, ∃ A : Int, nn (fun x => decide (P x ≠ -1)) 6 = 2 * (k : Int) ∧ W (2 ^ n - 1) = W S + A ∧ 96400 * (k : Int) ≤ A ∧ A ≤ 100000 * (k : Int)
theorem Pv.st {vp : Nat → Nat → Int} {W : Nat → Int} {n : Nat} (hn : n < 7) {P : Nat → Int} (hP : ∀ x, x < 6 → P x = -1) : Pv vp W n 0 (2 ^ n - 1) P := by
  have hp : 1 ≤ 2 ^ n := Nat.one_le_two_pow
  refine ⟨by omega, fun _ _ _ => Nat.zero_le _, fun x hx => ⟨fun _ => ⟨rfl, hP x (by omega)⟩, fun h => ?_⟩, fun x hx _ => hP x hx, 0, 0, ?_, by omega, by omega, by omega⟩
  · rw [tb_7 n hn x (by omega), decide_eq_true hx] at h
    cases h
  · rw [nn_zero (fun u hu => decide_eq_false (fun z => z (hP u hu)))]
    rfl
theorem Pv.no {vp : Nat → Nat → Int} {W : Nat → Int} {n f S : Nat} {P : Nat → Int} (h : Pv vp W n f S P) (hb : tb S f = false) : Pv vp W n (f + 1) S P := by
  refine ⟨h.1, fun k hk hk2 => ?_, h.2.2⟩
  have h1 := h.2.1 k hk hk2
  have h2 : k ≠ f := fun e => by rw [e, hb] at hk2; cases hk2
  omega
theorem Pv.lws {vp : Nat → Nat → Int} {W : Nat → Int} {n f S : Nat} {P : Nat → Int} (hn : n < 7) (h : Pv vp W n f S P) (hf : f < 6) (hb : tb S f = true) : (1 ≤ S ∧ S < 64) ∧ lw S = f := by
  have h64 := two_le hn
  have h0 := h.1
  have hS64 : S < 64 := Nat.lt_of_lt_of_le h0 h64
  have hS1 : 1 ≤ S := by
    rcases Nat.eq_zero_or_pos S with z | z
    · rw [z, tb_0 f hf] at hb
      cases hb
    · exact z
  have t4 := tb_4 S hS64 hS1
  have h1 := h.2.1 _ t4.1.2 t4.1.1
  refine ⟨⟨hS1, hS64⟩, ?_⟩
  rcases Nat.lt_or_ge f (lw S) with y | y
  · rw [t4.2 f hf y] at hb
    cases hb
  · omega
theorem Pv.go {vp : Nat → Nat → Int} {W : Nat → Int} {n f S : Nat} {P : Nat → Int} (hn : n < 7) (hW : Wp n vp W) (hv : ∀ f g, f < g → g < n → vp f g = 0 ∨ (96400 ≤ vp f g ∧ vp f g ≤ 100000)) (h : Pv vp W n f S P) (hf : f < n) (hb : tb S f = true) : Pv vp W n (f + 1) (nxt vp W S n) (if ch vp W S n = n then P else up (up P f (ch vp W S n)) (ch vp W S n) f) := by
  have h64 := two_le hn
  obtain ⟨⟨hS1, hS64⟩, el⟩ := h.lws hn (by omega) hb
  have ci := ch_in (vp := vp) (W := W) hS64 hS1 hn
  rw [el] at ci
  obtain ⟨c1, c2, c3, c4⟩ := ci
  obtain ⟨p1, p2, p3, p4, k, A, p5, p6, p7, p8⟩ := h
  have hl := nxt_lt (vp := vp) (W := W) (n := n) hS64 hS1
  have hpr : ∀ x, x < n → x ≠ f → ch vp W S n ≠ x → tb S x = true → prF vp W n x 64 S = prF vp W n x 64 (nxt vp W S n) := fun x hx h1 h2 h3 => by
    have e : prF vp W n x 64 S = prF vp W n x 63 (nxt vp W S n) := by
      show (if lw S = x then _ else if ch vp W S n = x then _ else prF vp W n x 63 (nxt vp W S n)) = _
      rw [el, if_neg (fun z => h1 z.symm), if_neg h2]
    rw [e]
    refine prF_k hn 63 64 _ (by omega) (by omega) (by omega) (by omega) ?_
    rw [c4 x (by omega), h3, decide_eq_true h1, decide_eq_true (show ch vp W S n = n ∨ x ≠ ch vp W S n from Or.inr (fun z => h2 z.symm))]
    rfl
  have hprf : prF vp W n f 64 S = if ch vp W S n = n then -1 else (ch vp W S n : Int) := by
    show (if lw S = f then _ else _) = _
    rw [el, if_pos rfl]
  have hbits : ∀ k, k < 6 → tb (nxt vp W S n) k = true → f + 1 ≤ k := fun k hk hk2 => by
    rw [c4 k hk, Bool.and_eq_true, Bool.and_eq_true, decide_eq_true_eq] at hk2
    have := p2 k hk hk2.1
    omega
  have hout : ∀ x, x < n → tb (nxt vp W S n) x = false → x = f ∨ (ch vp W S n ≠ n ∧ x = ch vp W S n) ∨ tb S x = false := fun x hx hx2 => by
    rw [c4 x (by omega)] at hx2
    by_cases e1 : x = f
    · exact Or.inl e1
    · by_cases e2 : ch vp W S n = n ∨ x ≠ ch vp W S n
      · rw [decide_eq_true e1, decide_eq_true e2, Bool.true_and, Bool.and_true] at hx2
        exact Or.inr (Or.inr hx2)
      · refine Or.inr (Or.inl ⟨fun z => e2 (Or.inl z), Classical.byContradiction fun z => e2 (Or.inr z)⟩)
  have hin : ∀ x, x < n → tb (nxt vp W S n) x = true → tb S x = true ∧ x ≠ f ∧ ch vp W S n ≠ x := fun x hx hx2 => by
    rw [c4 x (by omega), Bool.and_eq_true, Bool.and_eq_true, decide_eq_true_eq, decide_eq_true_eq] at hx2
    refine ⟨hx2.1, hx2.2.1, fun z => ?_⟩
    rcases hx2.2.2 with y | y
    · omega
    · exact y z.symm
  have hfS := p3 f hf
  by_cases hc : ch vp W S n = n
  · rw [if_pos hc]
    have eW : W S = W (nxt vp W S n) := by
      unfold nxt
      rw [if_pos hc]
      rcases (hW.2 S hS1 p1).2 with z | ⟨g, g1, g2, g3, g4⟩
      · exact z
      · exfalso
        have hcn : cnd vp W S g = true := by
          unfold cnd
          rw [g2, decide_eq_true g3, decide_eq_true g4.symm]
          rfl
        have hgn : g < n := by
          have t3 := tb_3 S hS64 f c1 c2 g g1
          have : tb (S - 2 ^ f) g = true := by
            have e : rs S = S - 2 ^ f := by unfold rs; rw [el]
            rw [← e]; exact g2
          rw [t3, Bool.and_eq_true] at this
          exact tb_6 n hn S hS64 g g1 ⟨p1, this.1⟩
        rcases ch_p (vp := vp) (W := W) (S := S) (n := n) with z | ⟨z, -⟩
        · rw [z.2 g hgn] at hcn
          cases hcn
        · omega
    refine ⟨by omega, hbits, fun x hx => ⟨fun h1 => ?_, fun h1 => ?_⟩, p4, k, A, p5, by rw [← eW]; exact p6, p7, p8⟩
    · obtain ⟨i1, i2, i3⟩ := hin x hx h1
      have := (p3 x hx).1 i1
      exact ⟨this.1.trans (hpr x hx i2 i3 i1), this.2⟩
    · rcases hout x hx h1 with z | ⟨z, -⟩ | z
      · have := hfS.1 hb
        rw [z, this.1, hprf, if_pos hc]
        exact this.2
      · exact absurd hc z
      · exact (p3 x hx).2 z
  · rw [if_neg hc]
    rcases c3 with z | ⟨g1, g2, g3, g4, g5, g6⟩
    · exact absurd z hc
    · have eW : W S = vp f (ch vp W S n) + W (nxt vp W S n) := by
        unfold nxt
        rw [if_neg hc]
        exact g6.symm
      have hvv := hv f (ch vp W S n) g2 g1
      have hgS := p3 (ch vp W S n) g1
      have hprg : prF vp W n (ch vp W S n) 64 S = (f : Int) := by
        show (if lw S = ch vp W S n then _ else if ch vp W S n = ch vp W S n then (lw S : Int) else _) = _
        rw [el, if_neg (by omega), if_pos rfl]
      generalize ch vp W S n = q at *
      refine ⟨by omega, hbits, fun x hx => ⟨fun h1 => ?_, fun h1 => ?_⟩, fun x hx hx2 => ?_, k + 1, A + vp f q, ?_, by omega, by omega, by omega⟩
      · obtain ⟨i1, i2, i3⟩ := hin x hx h1
        have := (p3 x hx).1 i1
        exact ⟨this.1.trans (hpr x hx i2 i3 i1), by rw [up_o (fun z => i3 z.symm), up_o i2]; exact this.2⟩
      · rcases hout x hx h1 with z | ⟨-, z⟩ | z
        · have := hfS.1 hb
          rw [z, this.1, hprf, if_neg hc, up_o (by omega), up_s]
        · have := hgS.1 g3
          rw [z, this.1, hprg, up_s]
        · have n1 : x ≠ f := fun e => by rw [e, hb] at z; cases z
          have n2 : x ≠ q := fun e => by rw [e, g3] at z; cases z
          rw [up_o n2, up_o n1]
          exact (p3 x hx).2 z
      · rw [up_o (by omega), up_o (by omega)]
        exact p4 x hx hx2
      · have a1 := (hfS.1 hb).2
        have a2 := (hgS.1 g3).2
        rw [nn_up (by omega) (by rw [up_o (by omega)]; exact a2) (by omega), nn_up (by omega) a1 (by omega), p5]
        omega
theorem Pv.en {vp : Nat → Nat → Int} {W : Nat → Int} {n S : Nat} {P : Nat → Int} (hn : n < 7) (hW : Wp n vp W) (h : Pv vp W n n S P) : (∀ x, x < n → P x = prF vp W n x 64 (2 ^ n - 1)) ∧ ∃ k : Nat, nn (fun x => decide (P x ≠ -1)) 6 = 2 * (k : Int) ∧ 96400 * (k : Int) ≤ W (2 ^ n - 1) ∧ W (2 ^ n - 1) ≤ 100000 * (k : Int) := by
  have h64 := two_le hn
  obtain ⟨p1, p2, p3, p4, k, A, p5, p6, p7, p8⟩ := h
  have h0 : S = 0 := by
    rcases Nat.eq_zero_or_pos S with z | z
    · exact z
    · exfalso
      have hS64 : S < 64 := Nat.lt_of_lt_of_le p1 h64
      have t4 := tb_4 S hS64 z
      have h1 := p2 _ t4.1.2 t4.1.1
      have h2 := tb_6 n hn S hS64 _ t4.1.2 ⟨p1, t4.1.1⟩
      omega
  subst h0
  refine ⟨fun x hx => (p3 x hx).2 (tb_0 x (by omega)), k, p5, ?_⟩
  rw [p6, hW.1]
  omega
