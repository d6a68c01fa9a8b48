/-! the law's start: the world of both objects, and the statics -/
def ti_ad (q0 q5 : Nat) (u4 r4 t4 u5 : Nat → Nat) (k : Nat) : Nat := if k = 0 then q0 else if k = 5 then q5 else if k < 13 then u4 k else if k < 19 then r4 (k - 13) else if k < 29 then u4 k else if k < 33 then t4 (k - 29) else u5 k
def ti_E (D : va_G) (cI cL cA : ClassId) (hi q0 q5 : Nat) (u4 r4 t4 u5 : Nat → Nat) : tn_E := (ti_ad q0 q5 u4 r4 t4 u5, D, cI, cL, cA, hi)
theorem ti_world {D : va_G} {cI cL cA : ClassId} {hi q0 q5 : Nat} {u4 r4 t4 u5 : Nat → Nat} {H : Heap} (hP : va_P D classes (wX4 cI cL q0 (u4, r4, t4, cA) ++ wX5 cI cL q5 u5) H) : va_P D classes (tn_ws (ti_E D cI cL cA hi q0 q5 u4 r4 t4 u5) ti_σ) H := by
  have h1 := va_P_ref (k := 11) hP (g := fun i => some (tn_ad (ti_E D cI cL cA hi q0 q5 u4 r4 t4 u5) (12 + 1 + i))) rfl (fun j hj => by rcases (show j = 0 ∨ j = 1 ∨ j = 2 ∨ j = 3 ∨ j = 4 ∨ j = 5 by omega) with rfl | rfl | rfl | rfl | rfl | rfl <;> rfl)
  have h2 := va_P_ref (k := 27) h1 (g := fun i => some (tn_ad (ti_E D cI cL cA hi q0 q5 u4 r4 t4 u5) (28 + 1 + i))) rfl (fun j hj => by rcases (show j = 0 ∨ j = 1 ∨ j = 2 ∨ j = 3 by omega) with rfl | rfl | rfl | rfl <;> rfl)
  exact h2.sub [0, 1, 2, 3, 4, 32, 5, 6, 7, 8, 9, 10, 11, 12, 13, 14, 15, 16, 17, 18, 19, 20, 21, 22, 23, 24, 25, 26, 27, 28, 29, 30, 31, 33, 34, 35, 36, 37, 38, 39, 40, 41, 42, 43, 44, 45, 46, 47, 48] rfl
