/-! the call: sheet, where it refuses; the state of a new sheet -/
section DJ
variable {A : tA} {σ : tn_M}
def tn_As (A : tA) (s f z : Nat) : tA := (aL A, aT A, aG A, aH A, aU A, va_up (aF A) s (nI f), va_up (aZ A) s z, fun a b => if a = s then 0 else aI A a b, aN A)
theorem tW_s (hA : tW A) {s f z : Nat} (hf : f ≤ 2) (hz : z ≤ 60) : tW (tn_As A s f z) := by
  refine ⟨hA.1, hA.2.1, hA.2.2.1, hA.2.2.2.1, fun j hj => ?_, fun j hj => ?_⟩
  · show va_up (aF A) s (nI f) j = -1 ∨ ∃ g, g ≤ 2 ∧ va_up (aF A) s (nI f) j = nI g
    unfold va_up
    split
    · exact Or.inr ⟨f, hf, rfl⟩
    · exact hA.2.2.2.2.1 j hj
  · show va_up (aZ A) s z j ≤ 60
    unfold va_up
    split
    · exact hz
    · exact hA.2.2.2.2.2 j hj
theorem len_it : ∀ s, s < 4 → tn_len (28 + 1 + s) = 60 := by decide
theorem k_renew (h : CI A σ) {s f z : Nat} (hs : s < 4) (hz : z ≤ 60) : tq (f_X1_renew (nI s) (nI f) (nI z) σ) (fun _ σ' => CI (tn_As A s f z) σ') := by
  unfold f_X1_renew
  rw [tn_ckn hs (by decide), tn_xn (show s < 2 ^ 31 by omega)]
  refine tq_lt ?_
  rw [tn_ckn hs (by decide)]
  refine tq_lt ?_
  rw [tn_ckn hs (by decide)]
  refine tq_bd (tq_fr (fr_J7_fill_53178 _ _ _) (s_fillA (k0 := 28 + 1 + s) (len := 60) (len_it s hs) (by omega) _)) (fun _ σ4 ⟨q, fr⟩ => tq_some ?_)
  obtain ⟨⟨g1, g2, g3, g4, g5, g6, g7, g8, g9⟩, p2, p3, p4⟩ := h
  have e4 : ∀ a b, a ≠ 28 + 1 + s → σ4.1 a b = (tn_si (tn_si σ 26 s (nI f)) 27 s (nI z)).1 a b := fun a b hab => fr.i a b (by unfold tn_ms; simp; omega)
  have l4 : ∀ a b, a ≠ 28 + 1 + s → σ4.2 a b = σ.2 a b := fun a b hab => fr.l a b (by unfold tn_ms; simp; omega)
  have ee : ∀ a b, a < 26 → σ4.1 a b = σ.1 a b := fun a b hab => by rw [e4 a b (by omega), tn_si_1, if_neg (by omega), tn_si_1, if_neg (by omega)]
  refine ⟨⟨by rw [ee _ _ (by omega)]; exact g1, fun j hj => by rw [ee _ _ (by omega)]; exact g2 j hj, fun j hj => by rw [ee _ _ (by omega)]; exact g3 j hj, fun j hj => by rw [ee _ _ (by omega)]; exact g4 j hj, fun j hj => by rw [ee _ _ (by omega)]; exact g5 j hj, fun j hj => ?_, fun j hj => ?_, fun a ha b hb => ?_, by rw [ee _ _ (by omega)]; exact g9⟩, by rw [ee _ _ (by omega)]; exact p2, cSt_same p3 (fun a b hab => ee a b (by omega)) (tV_A A).2.1, ?_⟩
  · show _ = va_up (aF A) s (nI f) j
    unfold va_up
    rw [e4 26 j (by omega), tn_si_1, if_neg (by omega), tn_si_1]
    by_cases c : j = s
    · rw [if_pos ⟨rfl, c⟩, if_pos c]
    · rw [if_neg (fun w => c w.2), if_neg c]; exact g6 j hj
  · show _ = nI (va_up (aZ A) s z j)
    unfold va_up
    rw [e4 27 j (by omega), tn_si_1]
    by_cases c : j = s
    · rw [if_pos ⟨rfl, c⟩, if_pos c]
    · rw [if_neg (fun w => c w.2), if_neg c, tn_si_1, if_neg (by omega)]; exact g7 j hj
  · show _ = if a = s then 0 else aI A a b
    have hb : b < va_up (aZ A) s z a := hb
    by_cases c : a = s
    · subst c
      rw [if_pos rfl]
      by_cases h60 : b < 60
      · exact q b h60
      · exact q b (by unfold va_up at hb; rw [if_pos rfl] at hb; omega)
    · unfold va_up at hb
      rw [if_neg c] at hb
      rw [if_neg c, e4 (29 + a) b (by omega), tn_si_1, if_neg (by omega), tn_si_1, if_neg (by omega)]
      exact g8 a ha b hb
  · rw [ee 2 1 (by omega)]
    rcases p4 with p4 | ⟨p4, p5⟩
    · exact Or.inl p4
    · exact Or.inr ⟨p4, fun hh B c q1 q2 q3 q4 => by rw [l4 _ _ (by omega)]; exact p5 hh B c q1 q2 q3 q4⟩
end DJ
