/-! PAIRS: the class's sets -/
/-- known up to N -/
def WN (N : Nat) (vp : Nat → Nat → Int) (W : Nat → Int) : Prop := W 0 = 0 ∧ ∀ S, S < N → (0 ≤ W S ∧ W S ≤ 100000 * S) ∧ (1 ≤ S → (W (rs S) ≤ W S ∧ ∀ g, g < 6 → tb (rs S) g = true → vp (lw S) g + W (rs S - 2 ^ g) ≤ W S) ∧ (W S = W (rs S) ∨ ∃ g, g < 6 ∧ tb (rs S) g = true ∧ W S = vp (lw S) g + W (rs S - 2 ^ g)))
theorem WN.q {n : Nat} {vp : Nat → Nat → Int} {W : Nat → Int} (h : WN (2 ^ n) vp W) : Wq n vp W := ⟨h.1, fun S h1 h2 => (h.2 S h2).2 h1⟩
theorem WN.add {N : Nat} (hN : 1 ≤ N) (h64 : N < 64) {vp : Nat → Nat → Int} {W : Nat → Int} (h : WN N vp W) {B : Int} (b1 : W (rs N) ≤ B ∧ ∀ g, g < 6 → tb (rs N) g = true → vp (lw N) g + W (rs N - 2 ^ g) ≤ B) (b2 : B = W (rs N) ∨ ∃ g, g < 6 ∧ tb (rs N) g = true ∧ B = vp (lw N) g + W (rs N - 2 ^ g)) (b3 : 0 ≤ B ∧ B ≤ 100000 * N) : WN (N + 1) vp (up W N B) := by
  have hr := rs_lt h64 hN
  have hu : ∀ S, S < N → up W N B S = W S := fun S hS => up_o (by omega)
  have hl : ∀ g, rs N - 2 ^ g < N := fun g => Nat.lt_of_le_of_lt (Nat.sub_le _ _) hr
  refine ⟨by rw [hu 0 (by omega)]; exact h.1, fun S hS => ?_⟩
  by_cases e : S = N
  · rw [e, up_s, hu _ hr]
    refine ⟨b3, fun _ => ⟨⟨b1.1, fun g hg hb => by rw [hu _ (hl g)]; exact b1.2 g hg hb⟩, ?_⟩⟩
    rcases b2 with z | ⟨g, g1, g2, g3⟩
    · exact Or.inl z
    · exact Or.inr ⟨g, g1, g2, by rw [hu _ (hl g)]; exact g3⟩
  · have hS2 : S < N := by omega
    have hS' : 1 ≤ S → rs S < N := fun h1 => by have := rs_lt (S := S) (by omega) h1; omega
    rw [hu S hS2]
    refine ⟨(h.2 S hS2).1, fun h1 => ?_⟩
    have hl2 : ∀ g, rs S - 2 ^ g < N := fun g => Nat.lt_of_le_of_lt (Nat.sub_le _ _) (hS' h1)
    obtain ⟨⟨c1, c2⟩, c3⟩ := (h.2 S hS2).2 h1
    rw [hu _ (hS' h1)]
    refine ⟨⟨c1, fun g hg hb => by rw [hu _ (hl2 g)]; exact c2 g hg hb⟩, ?_⟩
    rcases c3 with z | ⟨g, g1, g2, g3⟩
    · exact Or.inl z
    · exact Or.inr ⟨g, g1, g2, by rw [hu _ (hl2 g)]; exact g3⟩
section
variable {sc : Nat × (Nat → Int)} {d a : Nat} {h : am_H} {I J : am_I} {w : am_Wd}
theorem shl_6 : ∀ g : Nat, g < 6 → bShl 1 (g : Int) = ((2 ^ g : Nat) : Int) := by decide +kernel
theorem w_less {S g : Nat} (hS : S < 64) (hg : g < 6) (hb : tb S g = true) : w32 ((S : Int) - bShl 1 (g : Int)) = ((S - 2 ^ g : Nat) : Int) := by
  have h2 := (tb_2 S hS g hg hb).2
  rw [shl_6 g hg, ← Int.ofNat_sub h2]
  exact w32_id (by omega) (by have := Nat.sub_le S (2 ^ g); omega)
theorem tb_lt {S g : Nat} (hS : S < 64) (hg : g < 6) (hb : tb S g = true) : S - 2 ^ g < S := by
  have h2 := (tb_2 S hS g hg hb).2
  have hp : 1 ≤ 2 ^ g := Nat.one_le_two_pow
  exact Nat.sub_lt (Nat.le_trans hp h2) hp
end
