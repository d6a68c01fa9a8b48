section DI
variable {A B : tA} {e : tEc} {hb u lim : Nat → Nat} {held : Int32} {σ : tn_M}
/-- the scene stands when sheets change -/
theorem cSc_sh (hV : tVe e) {σ' : tn_M} (h : cSc e hb u lim held σ) (ee : ∀ a b, a < 29 → σ'.1 a b = σ.1 a b) (e2 : ∀ a b, a < 29 → σ'.2 a b = σ.2 a b) : cSc e hb u lim held σ' := by
  obtain ⟨p1, p2, p3, p4, p5, p6, p7, p8, p9, p10, p11⟩ := h
  exact ⟨cSt_same p1 (fun a b hab => ee a b (by omega)) hV.1.2.1, fun hh B c q1 q2 q3 q4 => by rw [e2 _ _ (by omega)]; exact p2 hh B c q1 q2 q3 q4, fun k hk => by rw [ee _ _ (by omega)]; exact p3 k hk, fun j a1 a2 => by rw [ee _ _ (by omega)]; exact p4 j a1 a2, fun j a1 a2 => by rw [ee _ _ (by omega)]; exact p5 j a1 a2, fun j hj => by rw [ee _ _ (by omega)]; exact p6 j hj, by rw [ee _ _ (by omega)]; exact p7, by rw [ee _ _ (by omega)]; exact p8, by rw [e2 _ _ (by omega)]; exact p9, by rw [ee _ _ (by omega)]; exact p10, p11⟩
end DI
