/-! the call: write -/
section DH
variable {A : tA} {σ : tn_M}
/-- the sheet after j answers are laid -/
def tn_Aw (A : tA) (s : Nat) : Nat → tA
  | 0 => A
  | j + 1 => tn_Ai (tn_Aw A s j) s j (tn_cut (aF A s) (nI (tn_rp (tn_eA A) (tn_hA A) (aH A) (tn_lm (tn_eA A) 3) j)))
theorem Aw_same (A : tA) (s : Nat) : ∀ j, aL (tn_Aw A s j) = aL A ∧ aT (tn_Aw A s j) = aT A ∧ aG (tn_Aw A s j) = aG A ∧ aH (tn_Aw A s j) = aH A ∧ aU (tn_Aw A s j) = aU A ∧ aF (tn_Aw A s j) = aF A ∧ aZ (tn_Aw A s j) = aZ A ∧ aN (tn_Aw A s j) = aN A
  | 0 => ⟨rfl, rfl, rfl, rfl, rfl, rfl, rfl, rfl⟩
  | j + 1 => Aw_same A s j
theorem tW_w (hA : tW A) (s j : Nat) : tW (tn_Aw A s j) := by
  obtain ⟨h1, h2, h3, h4, h5, h6, h7, h8⟩ := Aw_same A s j
  unfold tW
  rw [h1, h3, h4, h5, h6, h7]
  exact hA
end DH
