/-! frames: what a pure run leaves as it was -/
def tn_ms (S : List (Nat × Nat)) (a b : Nat) : Bool := S.any fun q => q.1 == a && (q.2 == 999 || q.2 == b)
def tn_fr (S : List (Nat × Nat)) (σ σ' : tn_M) : Prop := ∀ a b, tn_ms S a b = false → σ'.1 a b = σ.1 a b ∧ σ'.2 a b = σ.2 a b
def tf {ρ : Type} (S : List (Nat × Nat)) (σ : tn_M) (res : Option (ρ × tn_M)) : Prop := ∀ r σ', res = some (r, σ') → tn_fr S σ σ'
theorem tn_fr.rf {S : List (Nat × Nat)} {σ : tn_M} : tn_fr S σ σ := fun _ _ _ => ⟨rfl, rfl⟩
theorem tn_fr.tr {S : List (Nat × Nat)} {σ σ1 σ2 : tn_M} (h : tn_fr S σ σ1) (h2 : tn_fr S σ1 σ2) : tn_fr S σ σ2 := fun a b q => ⟨(h2 a b q).1.trans (h a b q).1, (h2 a b q).2.trans (h a b q).2⟩
theorem tn_ms_sub {S S' : List (Nat × Nat)} (h : ∀ q ∈ S, q ∈ S') {a b : Nat} (q : tn_ms S' a b = false) : tn_ms S a b = false := by
  apply Bool.eq_false_iff.mpr
  intro h1
  obtain ⟨x, hx, h2⟩ := List.any_eq_true.mp h1
  have : tn_ms S' a b = true := List.any_eq_true.mpr ⟨x, h x hx, h2⟩
  rw [this] at q
  cases q
theorem tn_fr.mono {S S' : List (Nat × Nat)} (hs : ∀ q ∈ S, q ∈ S') {σ σ' : tn_M} (h : tn_fr S σ σ') : tn_fr S' σ σ' := fun a b q => h a b (tn_ms_sub hs q)
theorem tn_fr.si {S : List (Nat × Nat)} {σ σ1 : tn_M} {k j : Nat} {v : Int32} (hm : tn_ms S k j = true) (h : tn_fr S σ σ1) : tn_fr S σ (tn_si σ1 k j v) := by
  intro a b q
  obtain ⟨h1, h2⟩ := h a b q
  refine ⟨?_, by rw [tn_si_2]; exact h2⟩
  rw [tn_si_1, if_neg, h1]
  rintro ⟨rfl, rfl⟩
  rw [hm] at q
  cases q
theorem tn_fr.sl {S : List (Nat × Nat)} {σ σ1 : tn_M} {k j : Nat} {v : Int64} (hm : tn_ms S k j = true) (h : tn_fr S σ σ1) : tn_fr S σ (tn_sl σ1 k j v) := by
  intro a b q
  obtain ⟨h1, h2⟩ := h a b q
  refine ⟨by rw [tn_sl_1]; exact h1, ?_⟩
  rw [tn_sl_2, if_neg, h2]
  rintro ⟨rfl, rfl⟩
  rw [hm] at q
  cases q
theorem tn_fr.cp {S : List (Nat × Nat)} {σ σ1 : tn_M} {ks kd sp dp n : Nat} (hm : ∀ j, tn_ms S kd j = true) (h : tn_fr S σ σ1) : tn_fr S σ (tn_cp σ1 ks kd sp dp n) := by
  intro a b q
  obtain ⟨h1, h2⟩ := h a b q
  refine ⟨?_, by rw [tn_cp_2]; exact h2⟩
  rw [tn_cp_1, if_neg, h1]
  rintro ⟨rfl, -, -⟩
  rw [hm b] at q
  cases q
section TF
variable {ρ ρ1 : Type} {S : List (Nat × Nat)} {σ σ1 : tn_M} {res X Y : Option (ρ × tn_M)}
theorem tf_none : tf S σ (none : Option (ρ × tn_M)) := fun _ _ h => by cases h
theorem tf_some {r : ρ} (h : tn_fr S σ σ1) : tf S σ (some (r, σ1)) := fun _ _ e => by cases e; exact h
theorem tf_zr {v : Int32} (h : tn_fr S σ σ1) : tf S σ (tn_zr v σ1) := by
  unfold tn_zr
  split
  · exact tf_some h
  · exact tf_none
theorem tf_ck {i : Int32} {n : Nat} (h : ¬ (i < 0 ∨ n ≤ i.toNatClampNeg) → tf S σ res) : tf S σ (tn_ck i n res) := by
  unfold tn_ck
  split
  · exact tf_none
  · next q => exact h q
theorem tf_dz {y : Int32} (h : tf S σ res) : tf S σ (tn_dz y res) := by
  unfold tn_dz
  split
  · exact tf_none
  · exact h
theorem tf_dzl {y : Int64} (h : tf S σ res) : tf S σ (tn_dzl y res) := by
  unfold tn_dzl
  split
  · exact tf_none
  · exact h
theorem tf_cck {a b c : Int32} {n m : Nat} (h : tf S σ res) : tf S σ (tn_cck a b c n m res) := by
  unfold tn_cck
  split
  · exact tf_none
  · exact h
theorem tf_lt {α : Type} {v : α} {k : α → Option (ρ × tn_M)} (h : ∀ x, tf S σ (k x)) : tf S σ (tn_lt v k) := h v
theorem tf_m {k : tn_M → Option (ρ × tn_M)} {σ2 : tn_M} (h2 : tn_fr S σ σ2) (h : ∀ x, tn_fr S σ x → tf S σ (k x)) : tf S σ (tn_lt σ2 k) := h σ2 h2
theorem tf_ite {c : Prop} [Decidable c] (h1 : tf S σ X) (h2 : tf S σ Y) : tf S σ (if c then X else Y) := by
  split
  · exact h1
  · exact h2
theorem tf_bd {S1 : List (Nat × Nat)} {o : Option (ρ1 × tn_M)} {k : ρ1 → tn_M → Option (ρ × tn_M)} (hs : ∀ q ∈ S1, q ∈ S) (hf : tf S1 σ1 o) (h0 : tn_fr S σ σ1) (h : ∀ r x, tn_fr S σ x → tf S σ (k r x)) : tf S σ (tn_bd o k) := by
  cases o with
  | none => exact tf_none
  | some q => exact h q.1 q.2 (h0.tr ((hf q.1 q.2 rfl).mono hs))
theorem tf_mo {S' : List (Nat × Nat)} (hs : ∀ q ∈ S', q ∈ S) (h : tf S' σ res) : tf S σ res := fun r x e => (h r x e).mono hs
theorem tf_to (h0 : tn_fr S σ σ1) (h : tf S σ1 res) : tf S σ res := fun r x e => h0.tr (h r x e)
end TF
theorem tn_row6 {S : List (Nat × Nat)} {i : Int32} {j : Nat} (hs : ∀ q ∈ ([(13, 999), (14, 999), (15, 999), (16, 999), (17, 999), (18, 999)] : List (Nat × Nat)), q ∈ S) (h : ¬ (i < 0 ∨ 6 ≤ i.toNatClampNeg)) : tn_ms S (12 + 1 + tn_x i) j = true := by
  have hl : tn_x i < 6 := Nat.not_le.mp fun q => h (Or.inr q)
  generalize tn_x i = x at hl
  have : ((12 + 1 + x, 999) : Nat × Nat) ∈ ([(13, 999), (14, 999), (15, 999), (16, 999), (17, 999), (18, 999)] : List (Nat × Nat)) := by
    rcases (by omega : x = 0 ∨ x = 1 ∨ x = 2 ∨ x = 3 ∨ x = 4 ∨ x = 5) with rfl | rfl | rfl | rfl | rfl | rfl <;> decide
  exact List.any_eq_true.mpr ⟨_, hs _ this, by simp⟩
theorem tn_row4 {S : List (Nat × Nat)} {i : Int32} {j : Nat} (hs : ∀ q ∈ ([(29, 999), (30, 999), (31, 999), (32, 999)] : List (Nat × Nat)), q ∈ S) (h : ¬ (i < 0 ∨ 4 ≤ i.toNatClampNeg)) : tn_ms S (28 + 1 + tn_x i) j = true := by
  have hl : tn_x i < 4 := Nat.not_le.mp fun q => h (Or.inr q)
  generalize tn_x i = x at hl
  have : ((28 + 1 + x, 999) : Nat × Nat) ∈ ([(29, 999), (30, 999), (31, 999), (32, 999)] : List (Nat × Nat)) := by
    rcases (by omega : x = 0 ∨ x = 1 ∨ x = 2 ∨ x = 3) with rfl | rfl | rfl | rfl <;> decide
  exact List.any_eq_true.mpr ⟨_, hs _ this, by simp⟩
theorem tn_sub4 {S : List (Nat × Nat)} {i : Int32} (hs : ∀ q ∈ ([(29, 999), (30, 999), (31, 999), (32, 999)] : List (Nat × Nat)), q ∈ S) (h : ¬ (i < 0 ∨ 4 ≤ i.toNatClampNeg)) : ∀ q ∈ ([(28 + 1 + tn_x i, 999)] : List (Nat × Nat)), q ∈ S := by
  intro q hq
  cases List.mem_singleton.mp hq
  have hl : tn_x i < 4 := Nat.not_le.mp fun q => h (Or.inr q)
  generalize tn_x i = x at hl
  apply hs
  rcases (by omega : x = 0 ∨ x = 1 ∨ x = 2 ∨ x = 3) with rfl | rfl | rfl | rfl <;> decide
set_option maxRecDepth 20000 in
theorem fr_J6_bitCount_0f7a4  (a0 : Int32) (σ : tn_M) : tf [] σ (f_J6_bitCount_0f7a4 a0 σ) := by
  unfold f_J6_bitCount_0f7a4
  refine tf_lt (fun w1 => ?_)
  refine tf_lt (fun w2 => ?_)
  refine tf_lt (fun w3 => ?_)
  refine tf_lt (fun w4 => ?_)
  refine tf_lt (fun w5 => ?_)
  exact tf_some tn_fr.rf
set_option maxRecDepth 20000 in
theorem fr_J7_fill_53178_5  : ∀ (n : Nat) (k0 : Nat) (x1 : Int32) (x2 : Int32) (x3 : Int32) (σ : tn_M), tf [(k0, 999)] σ (F_J7_fill_53178_5 n k0 x1 x2 x3 σ) := by
  intro n
  induction n with
  | zero => intros; exact tf_none
  | succ tn_n ih =>
    intro k0 x1 x2 x3 σ
    rw [F_J7_fill_53178_5]
    refine tf_ite ?_ ?_
    · exact tf_some tn_fr.rf
    · refine tf_ck (fun hk1 => ?_)
      refine tf_m (tn_fr.si (by simp [tn_ms]) tn_fr.rf) (fun σ1 hσ1 => ?_)
      exact tf_to hσ1 (ih _ _ _ _ _)
set_option maxRecDepth 20000 in
theorem fr_J7_fill_53178  (k0 : Nat) (a1 : Int32) (σ : tn_M) : tf [(k0, 999)] σ (f_J7_fill_53178 k0 a1 σ) := by
  unfold f_J7_fill_53178
  refine tf_lt (fun w1 => ?_)
  exact tf_to tn_fr.rf (tf_mo (by exact fun _ h => h) (fr_J7_fill_53178_5 _ _ _ _ _ _))
set_option maxRecDepth 20000 in
theorem fr_J7_fill_d0a16_6  : ∀ (n : Nat) (x1 : Int64) (x3 : Int32) (x4 : Int32) (σ : tn_M), tf [(19, 999)] σ (F_J7_fill_d0a16_6 n x1 x3 x4 σ) := by
  intro n
  induction n with
  | zero => intros; exact tf_none
  | succ tn_n ih =>
    intro x1 x3 x4 σ
    rw [F_J7_fill_d0a16_6]
    refine tf_ite ?_ ?_
    · exact tf_some tn_fr.rf
    · refine tf_ck (fun hk1 => ?_)
      refine tf_m (tn_fr.sl (by rfl) tn_fr.rf) (fun σ1 hσ1 => ?_)
      exact tf_to hσ1 (ih _ _ _ _)
set_option maxRecDepth 20000 in
theorem fr_J7_fill_d0a16  (a1 : Int64) (σ : tn_M) : tf [(19, 999)] σ (f_J7_fill_d0a16 a1 σ) := by
  unfold f_J7_fill_d0a16
  exact tf_to tn_fr.rf (tf_mo (by decide) (fr_J7_fill_d0a16_6 _ _ _ _ _))
set_option maxRecDepth 20000 in
theorem fr_X2_next   (σ : tn_M) : tf [] σ (f_X2_next σ) := by
  unfold f_X2_next
  refine tf_ite ?_ ?_
  · exact tf_some tn_fr.rf
  · refine tf_ite ?_ ?_
    · exact tf_some tn_fr.rf
    · refine tf_ck (fun hk1 => ?_)
      exact tf_some tn_fr.rf
set_option maxRecDepth 20000 in
theorem fr_X2_fail  (a1 : Int32) (σ : tn_M) : tf [(1, 7)] σ (f_X2_fail a1 σ) := by
  unfold f_X2_fail
  refine tf_ite ?_ ?_
  · refine tf_m (tn_fr.si rfl tn_fr.rf) (fun σ1 hσ1 => ?_)
    exact tf_some hσ1
  · exact tf_some tn_fr.rf
set_option maxRecDepth 20000 in
theorem fr_X2_takeFigure_18   (σ : tn_M) : tf [(1, 7)] σ (F_X2_takeFigure_18 σ) := by
  unfold F_X2_takeFigure_18
  refine tf_bd (by decide) (fr_X2_fail _ _) tn_fr.rf (fun _ σ1 hσ1 => ?_)
  exact tf_some hσ1
set_option maxRecDepth 20000 in
theorem fr_X2_takeFigure   (σ : tn_M) : tf [(1, 7), (1, 8)] σ (f_X2_takeFigure σ) := by
  unfold f_X2_takeFigure
  refine tf_bd (by decide) (fr_X2_next _) tn_fr.rf (fun r2 σ1 hσ1 => ?_)
  refine tf_ite ?_ ?_
  · exact tf_to hσ1 (tf_mo (by decide) (fr_X2_takeFigure_18 _))
  · refine tf_ite ?_ ?_
    · refine tf_m (tn_fr.si rfl hσ1) (fun σ3 hσ3 => ?_)
      exact tf_some hσ3
    · exact tf_to hσ1 (tf_mo (by decide) (fr_X2_takeFigure_18 _))
set_option maxRecDepth 20000 in
theorem fr_X2_takeSign  (a1 : Int32) (σ : tn_M) : tf [(1, 7), (1, 8)] σ (f_X2_takeSign a1 σ) := by
  unfold f_X2_takeSign
  refine tf_bd (by decide) (fr_X2_next _) tn_fr.rf (fun r2 σ1 hσ1 => ?_)
  refine tf_ite ?_ ?_
  · refine tf_m (tn_fr.si rfl hσ1) (fun σ4 hσ4 => ?_)
    exact tf_some hσ4
  · refine tf_bd (by decide) (fr_X2_fail _ _) hσ1 (fun _ σ3 hσ3 => ?_)
    exact tf_some hσ3
set_option maxRecDepth 20000 in
theorem fr_X2_isFigure  (a0 : Int32) (σ : tn_M) : tf [] σ (f_X2_isFigure a0 σ) := by
  unfold f_X2_isFigure
  refine tf_ite ?_ ?_
  · exact tf_some tn_fr.rf
  · refine tf_ite ?_ ?_
    · exact tf_some tn_fr.rf
    · exact tf_some tn_fr.rf
set_option maxRecDepth 20000 in
theorem fr_X2_takeNumber_78  (x3 : Int32) (x4 : Int32) (σ : tn_M) : tf [(1, 7)] σ (F_X2_takeNumber_78 x3 x4 σ) := by
  unfold F_X2_takeNumber_78
  refine tf_bd (by decide) (fr_X2_fail _ _) tn_fr.rf (fun _ σ1 hσ1 => ?_)
  exact tf_some hσ1
set_option maxRecDepth 20000 in
theorem fr_X2_takeNumber_58  (x1 : Int32) (x2 : Int32) (x3 : Int32) (x4 : Int32) (σ : tn_M) : tf [(1, 7)] σ (F_X2_takeNumber_58 x1 x2 x3 x4 σ) := by
  unfold F_X2_takeNumber_58
  refine tf_ite ?_ ?_
  · exact tf_to tn_fr.rf (tf_mo (by decide) (fr_X2_takeNumber_78 _ _ _))
  · refine tf_ite ?_ ?_
    · exact tf_to tn_fr.rf (tf_mo (by decide) (fr_X2_takeNumber_78 _ _ _))
    · refine tf_ite ?_ ?_
      · exact tf_some tn_fr.rf
      · exact tf_to tn_fr.rf (tf_mo (by decide) (fr_X2_takeNumber_78 _ _ _))
set_option maxRecDepth 20000 in
theorem fr_X2_takeNumber_11  : ∀ (n : Nat) (x1 : Int32) (x2 : Int32) (x3 : Int32) (x4 : Int32) (x5 : Int32) (σ : tn_M), tf [(1, 7), (1, 8)] σ (F_X2_takeNumber_11 n x1 x2 x3 x4 x5 σ) := by
  intro n
  induction n with
  | zero => intros; exact tf_none
  | succ tn_n ih =>
    intro x1 x2 x3 x4 x5 σ
    rw [F_X2_takeNumber_11]
    refine tf_ite ?_ ?_
    · exact tf_to tn_fr.rf (tf_mo (by decide) (fr_X2_takeNumber_58 _ _ _ _ _))
    · refine tf_bd (by decide) (fr_X2_next _) tn_fr.rf (fun r2 σ1 hσ1 => ?_)
      refine tf_bd (by decide) (fr_X2_isFigure _ _) hσ1 (fun r4 σ3 hσ3 => ?_)
      refine tf_ite ?_ ?_
      · exact tf_to hσ3 (tf_mo (by decide) (fr_X2_takeNumber_58 _ _ _ _ _))
      · refine tf_bd (by decide) (fr_X2_next _) hσ3 (fun r6 σ5 hσ5 => ?_)
        refine tf_lt (fun w7 => ?_)
        refine tf_m (tn_fr.si rfl hσ5) (fun σ8 hσ8 => ?_)
        exact tf_to hσ8 (ih _ _ _ _ _ _)
set_option maxRecDepth 20000 in
theorem fr_X2_takeNumber  (a1 : Int32) (a2 : Int32) (σ : tn_M) : tf [(1, 7), (1, 8)] σ (f_X2_takeNumber a1 a2 σ) := by
  unfold f_X2_takeNumber
  exact tf_to tn_fr.rf (tf_mo (by decide) (fr_X2_takeNumber_11 _ _ _ _ _ _ _))
set_option maxRecDepth 20000 in
theorem fr_X2_takeShop   (σ : tn_M) : tf [(1, 5), (1, 7), (1, 8), (10, 999), (11, 999)] σ (f_X2_takeShop σ) := by
  unfold f_X2_takeShop
  refine tf_m (tn_fr.si rfl tn_fr.rf) (fun σ1 hσ1 => ?_)
  refine tf_bd (by decide) (fr_X2_takeFigure _) hσ1 (fun r3 σ2 hσ2 => ?_)
  refine tf_bd (by decide) (fr_X2_takeSign _ _) hσ2 (fun _ σ4 hσ4 => ?_)
  refine tf_bd (by decide) (fr_X2_takeNumber _ _ _) hσ4 (fun r6 σ5 hσ5 => ?_)
  refine tf_ite ?_ ?_
  · refine tf_ck (fun hk1 => ?_)
    refine tf_m (tn_fr.si (by rfl) hσ5) (fun σ7 hσ7 => ?_)
    refine tf_ck (fun hk2 => ?_)
    refine tf_m (tn_fr.si (by rfl) hσ7) (fun σ8 hσ8 => ?_)
    refine tf_m (tn_fr.si rfl hσ8) (fun σ9 hσ9 => ?_)
    exact tf_some hσ9
  · exact tf_some hσ5
set_option maxRecDepth 20000 in
theorem fr_X2_takeLiked_48  (x2 : Int32) (σ : tn_M) : tf [(1, 8)] σ (F_X2_takeLiked_48 x2 σ) := by
  unfold F_X2_takeLiked_48
  refine tf_m (tn_fr.si rfl tn_fr.rf) (fun σ1 hσ1 => ?_)
  exact tf_some hσ1
set_option maxRecDepth 20000 in
theorem fr_X2_takeLiked_38   (σ : tn_M) : tf [(1, 7)] σ (F_X2_takeLiked_38 σ) := by
  unfold F_X2_takeLiked_38
  refine tf_bd (by decide) (fr_X2_fail _ _) tn_fr.rf (fun _ σ1 hσ1 => ?_)
  exact tf_some hσ1
set_option maxRecDepth 20000 in
theorem fr_X2_takeLiked   (σ : tn_M) : tf [(1, 7), (1, 8)] σ (f_X2_takeLiked σ) := by
  unfold f_X2_takeLiked
  refine tf_bd (by decide) (fr_X2_next _) tn_fr.rf (fun r2 σ1 hσ1 => ?_)
  refine tf_lt (fun v3 => ?_)
  refine tf_ite ?_ ?_
  · exact tf_to hσ1 (tf_mo (by decide) (fr_X2_takeLiked_48 _ _))
  · refine tf_ite ?_ ?_
    · exact tf_to hσ1 (tf_mo (by decide) (fr_X2_takeLiked_38 _))
    · refine tf_ite ?_ ?_
      · exact tf_to hσ1 (tf_mo (by decide) (fr_X2_takeLiked_48 _ _))
      · exact tf_to hσ1 (tf_mo (by decide) (fr_X2_takeLiked_38 _))
set_option maxRecDepth 20000 in
theorem fr_X2_takeSort   (σ : tn_M) : tf [(1, 6), (1, 7), (1, 8), (13, 999), (14, 999), (15, 999), (16, 999), (17, 999), (18, 999)] σ (f_X2_takeSort σ) := by
  unfold f_X2_takeSort
  refine tf_m (tn_fr.si rfl tn_fr.rf) (fun σ1 hσ1 => ?_)
  refine tf_ck (fun hk1 => ?_)
  refine tf_bd (by decide) (fr_X2_takeFigure _) hσ1 (fun r4 σ3 hσ3 => ?_)
  refine tf_m (tn_fr.si (tn_row6 (by decide) hk1) hσ3) (fun σ5 hσ5 => ?_)
  refine tf_bd (by decide) (fr_X2_takeSign _ _) hσ5 (fun _ σ6 hσ6 => ?_)
  refine tf_bd (by decide) (fr_X2_takeNumber _ _ _) hσ6 (fun r8 σ7 hσ7 => ?_)
  refine tf_m (tn_fr.si (tn_row6 (by decide) hk1) hσ7) (fun σ9 hσ9 => ?_)
  refine tf_bd (by decide) (fr_X2_takeSign _ _) hσ9 (fun _ σ10 hσ10 => ?_)
  refine tf_bd (by decide) (fr_X2_takeLiked _) hσ10 (fun r12 σ11 hσ11 => ?_)
  refine tf_m (tn_fr.si (tn_row6 (by decide) hk1) hσ11) (fun σ13 hσ13 => ?_)
  refine tf_bd (by decide) (fr_X2_takeSign _ _) hσ13 (fun _ σ14 hσ14 => ?_)
  refine tf_bd (by decide) (fr_X2_takeNumber _ _ _) hσ14 (fun r16 σ15 hσ15 => ?_)
  refine tf_m (tn_fr.si (tn_row6 (by decide) hk1) hσ15) (fun σ17 hσ17 => ?_)
  refine tf_bd (by decide) (fr_X2_takeSign _ _) hσ17 (fun _ σ18 hσ18 => ?_)
  refine tf_bd (by decide) (fr_X2_takeNumber _ _ _) hσ18 (fun r20 σ19 hσ19 => ?_)
  refine tf_m (tn_fr.si (tn_row6 (by decide) hk1) hσ19) (fun σ21 hσ21 => ?_)
  refine tf_bd (by decide) (fr_X2_takeSign _ _) hσ21 (fun _ σ22 hσ22 => ?_)
  refine tf_bd (by decide) (fr_X2_takeNumber _ _ _) hσ22 (fun r24 σ23 hσ23 => ?_)
  refine tf_m (tn_fr.si (tn_row6 (by decide) hk1) hσ23) (fun σ25 hσ25 => ?_)
  refine tf_ite ?_ ?_
  · refine tf_m (tn_fr.si rfl hσ25) (fun σ26 hσ26 => ?_)
    exact tf_some hσ26
  · exact tf_some hσ25
set_option maxRecDepth 20000 in
theorem fr_X2_takePart_48   (σ : tn_M) : tf [(1, 7)] σ (F_X2_takePart_48 σ) := by
  unfold F_X2_takePart_48
  refine tf_bd (by decide) (fr_X2_fail _ _) tn_fr.rf (fun _ σ1 hσ1 => ?_)
  exact tf_some hσ1
set_option maxRecDepth 20000 in
theorem fr_X2_takePart_26  (x1 : Int32) (σ : tn_M) : tf [(1, 6), (1, 7), (1, 8), (13, 999), (14, 999), (15, 999), (16, 999), (17, 999), (18, 999)] σ (F_X2_takePart_26 x1 σ) := by
  unfold F_X2_takePart_26
  refine tf_ite ?_ ?_
  · refine tf_ite ?_ ?_
    · exact tf_to tn_fr.rf (tf_mo (by decide) (fr_X2_takePart_48 _))
    · refine tf_bd (by decide) (fr_X2_takeSort _) tn_fr.rf (fun _ σ1 hσ1 => ?_)
      exact tf_some hσ1
  · exact tf_to tn_fr.rf (tf_mo (by decide) (fr_X2_takePart_48 _))
set_option maxRecDepth 20000 in
theorem fr_X2_takePart   (σ : tn_M) : tf [(1, 5), (1, 6), (1, 7), (1, 8), (10, 999), (11, 999), (13, 999), (14, 999), (15, 999), (16, 999), (17, 999), (18, 999)] σ (f_X2_takePart σ) := by
  unfold f_X2_takePart
  refine tf_bd (by decide) (fr_X2_next _) tn_fr.rf (fun r2 σ1 hσ1 => ?_)
  refine tf_ite ?_ ?_
  · refine tf_ite ?_ ?_
    · exact tf_to hσ1 (tf_mo (by decide) (fr_X2_takePart_26 _ _))
    · refine tf_bd (by decide) (fr_X2_takeShop _) hσ1 (fun _ σ3 hσ3 => ?_)
      exact tf_some hσ3
  · exact tf_to hσ1 (tf_mo (by decide) (fr_X2_takePart_26 _ _))
set_option maxRecDepth 20000 in
theorem fr_X2_parse_105   (σ : tn_M) : tf [(1, 5), (1, 6)] σ (F_X2_parse_105 σ) := by
  unfold F_X2_parse_105
  refine tf_ite ?_ ?_
  · exact tf_some tn_fr.rf
  · refine tf_m (tn_fr.si rfl tn_fr.rf) (fun σ1 hσ1 => ?_)
    refine tf_m (tn_fr.si rfl hσ1) (fun σ2 hσ2 => ?_)
    exact tf_some hσ2
set_option maxRecDepth 20000 in
theorem fr_X2_parse_74 (c35 : Int32 → Int32 → tn_M → Option (Unit × tn_M)) (hc35 : ∀ (x1 : Int32) (x2 : Int32) (σ : tn_M), tf [(1, 5), (1, 6), (1, 7), (1, 8), (10, 999), (11, 999), (13, 999), (14, 999), (15, 999), (16, 999), (17, 999), (18, 999)] σ (c35 x1 x2 σ)) (x2 : Int32) (y0 : Int32) (σ : tn_M) : tf [(1, 5), (1, 6), (1, 7), (1, 8), (10, 999), (11, 999), (13, 999), (14, 999), (15, 999), (16, 999), (17, 999), (18, 999)] σ (F_X2_parse_74 c35 x2 y0 σ) := by
  unfold F_X2_parse_74
  refine tf_ite ?_ ?_
  · exact tf_to tn_fr.rf (tf_mo (by decide) (hc35 _ _ _))
  · refine tf_bd (by decide) (fr_X2_takeSign _ _) tn_fr.rf (fun _ σ1 hσ1 => ?_)
    refine tf_lt (fun v2 => ?_)
    exact tf_to hσ1 (tf_mo (by decide) (hc35 _ _ _))
set_option maxRecDepth 20000 in
theorem fr_X2_parse_73 (c35 : Int32 → Int32 → tn_M → Option (Unit × tn_M)) (hc35 : ∀ (x1 : Int32) (x2 : Int32) (σ : tn_M), tf [(1, 5), (1, 6), (1, 7), (1, 8), (10, 999), (11, 999), (13, 999), (14, 999), (15, 999), (16, 999), (17, 999), (18, 999)] σ (c35 x1 x2 σ)) (x2 : Int32) (σ : tn_M) : tf [(1, 5), (1, 6), (1, 7), (1, 8), (10, 999), (11, 999), (13, 999), (14, 999), (15, 999), (16, 999), (17, 999), (18, 999)] σ (F_X2_parse_73 c35 x2 σ) := by
  unfold F_X2_parse_73
  exact tf_to tn_fr.rf (tf_mo (by decide) (fr_X2_parse_74 _ hc35 _ _ _))
set_option maxRecDepth 20000 in
theorem fr_X2_parse_35  : ∀ (n : Nat) (x1 : Int32) (x2 : Int32) (σ : tn_M), tf [(1, 5), (1, 6), (1, 7), (1, 8), (10, 999), (11, 999), (13, 999), (14, 999), (15, 999), (16, 999), (17, 999), (18, 999)] σ (F_X2_parse_35 n x1 x2 σ) := by
  intro n
  induction n with
  | zero => intros; exact tf_none
  | succ tn_n ih =>
    intro x1 x2 σ
    rw [F_X2_parse_35]
    refine tf_ite ?_ ?_
    · exact tf_to tn_fr.rf (tf_mo (by decide) (fr_X2_parse_105 _))
    · refine tf_ite ?_ ?_
      · exact tf_to tn_fr.rf (tf_mo (by decide) (fr_X2_parse_105 _))
      · refine tf_bd (by decide) (fr_X2_takePart _) tn_fr.rf (fun _ σ1 hσ1 => ?_)
        refine tf_ite ?_ ?_
        · refine tf_ite ?_ ?_
          · exact tf_to hσ1 (tf_mo (by decide) (fr_X2_parse_73 _ (fun _ _ _ => ih _ _ _) _ _))
          · exact tf_to hσ1 (tf_mo (by decide) (fr_X2_parse_74 _ (fun _ _ _ => ih _ _ _) _ _ _))
        · exact tf_to hσ1 (tf_mo (by decide) (fr_X2_parse_73 _ (fun _ _ _ => ih _ _ _) _ _))
set_option maxRecDepth 20000 in
theorem fr_X2_parse   (σ : tn_M) : tf [(1, 5), (1, 6), (1, 7), (1, 8), (10, 999), (11, 999), (13, 999), (14, 999), (15, 999), (16, 999), (17, 999), (18, 999)] σ (f_X2_parse σ) := by
  unfold f_X2_parse
  refine tf_m (tn_fr.si rfl tn_fr.rf) (fun σ1 hσ1 => ?_)
  refine tf_m (tn_fr.si rfl hσ1) (fun σ2 hσ2 => ?_)
  refine tf_m (tn_fr.si rfl hσ2) (fun σ3 hσ3 => ?_)
  refine tf_m (tn_fr.si rfl hσ3) (fun σ4 hσ4 => ?_)
  refine tf_lt (fun v5 => ?_)
  exact tf_to hσ4 (tf_mo (by decide) (fr_X2_parse_35 _ _ _ _))
set_option maxRecDepth 20000 in
theorem fr_X2_append  (a1 : Int32) (σ : tn_M) : tf [(1, 4), (1, 5), (1, 6), (1, 7), (1, 8), (9, 999), (10, 999), (11, 999), (13, 999), (14, 999), (15, 999), (16, 999), (17, 999), (18, 999)] σ (f_X2_append a1 σ) := by
  unfold f_X2_append
  refine tf_ite ?_ ?_
  · exact tf_some tn_fr.rf
  · refine tf_ck (fun hk1 => ?_)
    refine tf_m (tn_fr.si (by rfl) tn_fr.rf) (fun σ1 hσ1 => ?_)
    refine tf_m (tn_fr.si rfl hσ1) (fun σ2 hσ2 => ?_)
    refine tf_bd (by decide) (fr_X2_parse _) hσ2 (fun _ σ3 hσ3 => ?_)
    exact tf_some hσ3
set_option maxRecDepth 20000 in
theorem fr_X4_type  (a1 : Int32) (σ : tn_M) : tf [(1, 4), (1, 5), (1, 6), (1, 7), (1, 8), (2, 1), (9, 999), (10, 999), (11, 999), (13, 999), (14, 999), (15, 999), (16, 999), (17, 999), (18, 999)] σ (f_X4_type a1 σ) := by
  unfold f_X4_type
  refine tf_ite ?_ ?_
  · exact tf_some tn_fr.rf
  · refine tf_ite ?_ ?_
    · refine tf_ite ?_ ?_
      · refine tf_bd (by decide) (fr_X2_append _ _) tn_fr.rf (fun _ σ1 hσ1 => ?_)
        refine tf_m (tn_fr.si rfl hσ1) (fun σ2 hσ2 => ?_)
        exact tf_some hσ2
      · exact tf_some tn_fr.rf
    · exact tf_some tn_fr.rf
set_option maxRecDepth 20000 in
theorem fr_X2_clear   (σ : tn_M) : tf [(1, 4), (1, 5), (1, 6), (1, 7), (1, 8), (10, 999), (11, 999), (13, 999), (14, 999), (15, 999), (16, 999), (17, 999), (18, 999)] σ (f_X2_clear σ) := by
  unfold f_X2_clear
  refine tf_m (tn_fr.si rfl tn_fr.rf) (fun σ1 hσ1 => ?_)
  refine tf_bd (by decide) (fr_X2_parse _) hσ1 (fun _ σ2 hσ2 => ?_)
  exact tf_some hσ2
set_option maxRecDepth 20000 in
theorem fr_X4_wipe   (σ : tn_M) : tf [(1, 4), (1, 5), (1, 6), (1, 7), (1, 8), (2, 1), (10, 999), (11, 999), (13, 999), (14, 999), (15, 999), (16, 999), (17, 999), (18, 999)] σ (f_X4_wipe σ) := by
  unfold f_X4_wipe
  refine tf_bd (by decide) (fr_X2_clear _) tn_fr.rf (fun _ σ1 hσ1 => ?_)
  refine tf_m (tn_fr.si rfl hσ1) (fun σ2 hσ2 => ?_)
  exact tf_some hσ2
set_option maxRecDepth 20000 in
theorem fr_X4_fault   (σ : tn_M) : tf [] σ (f_X4_fault σ) := by
  unfold f_X4_fault
  exact tf_some tn_fr.rf
set_option maxRecDepth 20000 in
theorem fr_X4_noShop  (a1 : Int32) (σ : tn_M) : tf [] σ (f_X4_noShop a1 σ) := by
  unfold f_X4_noShop
  refine tf_ite ?_ ?_
  · exact tf_some tn_fr.rf
  · refine tf_ite ?_ ?_
    · exact tf_some tn_fr.rf
    · exact tf_some tn_fr.rf
set_option maxRecDepth 20000 in
theorem fr_X4_shop  (a1 : Int32) (a2 : Int32) (σ : tn_M) : tf [] σ (f_X4_shop a1 a2 σ) := by
  unfold f_X4_shop
  refine tf_bd (by decide) (fr_X4_noShop _ _) tn_fr.rf (fun r2 σ1 hσ1 => ?_)
  refine tf_ite ?_ ?_
  · refine tf_ite ?_ ?_
    · exact tf_some hσ1
    · refine tf_ite ?_ ?_
      · refine tf_ite ?_ ?_
        · refine tf_ck (fun hk1 => ?_)
          exact tf_some hσ1
        · refine tf_ite ?_ ?_
          · refine tf_ck (fun hk2 => ?_)
            exact tf_some hσ1
          · refine tf_ck (fun hk3 => ?_)
            refine tf_lt (fun v3 => ?_)
            exact tf_some hσ1
      · exact tf_some hσ1
  · exact tf_some hσ1
set_option maxRecDepth 20000 in
theorem fr_X4_sort  (a1 : Int32) (a2 : Int32) (σ : tn_M) : tf [] σ (f_X4_sort a1 a2 σ) := by
  unfold f_X4_sort
  refine tf_ite ?_ ?_
  · exact tf_some tn_fr.rf
  · refine tf_ite ?_ ?_
    · exact tf_some tn_fr.rf
    · refine tf_ite ?_ ?_
      · exact tf_some tn_fr.rf
      · refine tf_ite ?_ ?_
        · refine tf_ck (fun hk1 => ?_)
          refine tf_ck (fun hk2 => ?_)
          exact tf_some tn_fr.rf
        · exact tf_some tn_fr.rf
set_option maxRecDepth 20000 in
theorem fr_X4_set  (a1 : Int32) (a2 : Int32) (σ : tn_M) : tf [(2, 1), (6, 999)] σ (f_X4_set a1 a2 σ) := by
  unfold f_X4_set
  refine tf_ite ?_ ?_
  · exact tf_some tn_fr.rf
  · refine tf_ite ?_ ?_
    · exact tf_some tn_fr.rf
    · refine tf_ite ?_ ?_
      · exact tf_some tn_fr.rf
      · refine tf_ck (fun hk1 => ?_)
        refine tf_ite ?_ ?_
        · refine tf_ck (fun hk2 => ?_)
          refine tf_lt (fun w1 => ?_)
          refine tf_ck (fun hk3 => ?_)
          refine tf_m (tn_fr.si (by rfl) tn_fr.rf) (fun σ2 hσ2 => ?_)
          refine tf_ite ?_ ?_
          · refine tf_m (tn_fr.si rfl hσ2) (fun σ3 hσ3 => ?_)
            exact tf_some hσ3
          · exact tf_some hσ2
        · exact tf_some tn_fr.rf
set_option maxRecDepth 20000 in
theorem fr_X4_hours  (a1 : Int32) (a2 : Int32) (σ : tn_M) : tf [(7, 999)] σ (f_X4_hours a1 a2 σ) := by
  unfold f_X4_hours
  refine tf_ite ?_ ?_
  · exact tf_some tn_fr.rf
  · refine tf_ite ?_ ?_
    · exact tf_some tn_fr.rf
    · refine tf_ite ?_ ?_
      · exact tf_some tn_fr.rf
      · refine tf_ite ?_ ?_
        · refine tf_ck (fun hk1 => ?_)
          refine tf_lt (fun w1 => ?_)
          refine tf_ck (fun hk2 => ?_)
          refine tf_m (tn_fr.si (by rfl) tn_fr.rf) (fun σ2 hσ2 => ?_)
          exact tf_some hσ2
        · exact tf_some tn_fr.rf
set_option maxRecDepth 20000 in
theorem fr_X1_noSheet  (a0 : Int32) (σ : tn_M) : tf [] σ (f_X1_noSheet a0 σ) := by
  unfold f_X1_noSheet
  refine tf_ite ?_ ?_
  · exact tf_some tn_fr.rf
  · refine tf_ite ?_ ?_
    · exact tf_some tn_fr.rf
    · exact tf_some tn_fr.rf
set_option maxRecDepth 20000 in
theorem fr_X1_finding  (a1 : Int32) (σ : tn_M) : tf [(4, 3)] σ (f_X1_finding a1 σ) := by
  unfold f_X1_finding
  refine tf_m (tn_fr.si rfl tn_fr.rf) (fun σ1 hσ1 => ?_)
  exact tf_some hσ1
set_option maxRecDepth 20000 in
theorem fr_X1_refusal  (a1 : Int32) (σ : tn_M) : tf [(4, 3)] σ (f_X1_refusal a1 σ) := by
  unfold f_X1_refusal
  refine tf_bd (by decide) (fr_X1_noSheet _ _) tn_fr.rf (fun r2 σ1 hσ1 => ?_)
  refine tf_ite ?_ ?_
  · refine tf_ck (fun hk1 => ?_)
    refine tf_ite ?_ ?_
    · refine tf_bd (by decide) (fr_X1_finding _ _) hσ1 (fun r4 σ3 hσ3 => ?_)
      exact tf_some hσ3
    · exact tf_some hσ1
  · exact tf_some hσ1
set_option maxRecDepth 20000 in
theorem fr_X4_read_32  : ∀ (n : Nat) (x1 : Int32) (x3 : Int32) (x4 : Int32) (σ : tn_M), tf [(7, 999)] σ (F_X4_read_32 n x1 x3 x4 σ) := by
  intro n
  induction n with
  | zero => intros; exact tf_none
  | succ tn_n ih =>
    intro x1 x3 x4 σ
    rw [F_X4_read_32]
    refine tf_ite ?_ ?_
    · exact tf_some tn_fr.rf
    · refine tf_ck (fun hk1 => ?_)
      refine tf_ck (fun hk2 => ?_)
      refine tf_lt (fun w2 => ?_)
      refine tf_ite ?_ ?_
      · exact tf_some tn_fr.rf
      · refine tf_ite ?_ ?_
        · refine tf_ck (fun hk3 => ?_)
          refine tf_m (tn_fr.si (by rfl) tn_fr.rf) (fun σ3 hσ3 => ?_)
          exact tf_to hσ3 (ih _ _ _ _)
        · exact tf_some tn_fr.rf
set_option maxRecDepth 20000 in
theorem fr_X4_read  (a1 : Int32) (σ : tn_M) : tf [(4, 3), (7, 999)] σ (f_X4_read a1 σ) := by
  unfold f_X4_read
  refine tf_bd (by decide) (fr_X1_refusal _ _) tn_fr.rf (fun r2 σ1 hσ1 => ?_)
  refine tf_ite ?_ ?_
  · refine tf_ck (fun hk1 => ?_)
    refine tf_lt (fun w3 => ?_)
    exact tf_to hσ1 (tf_mo (by decide) (fr_X4_read_32 _ _ _ _ _))
  · exact tf_some hσ1
set_option maxRecDepth 20000 in
theorem fr_X3_rowOf  (a0 : Int32) (a1 : Int32) (σ : tn_M) : tf [] σ (f_X3_rowOf a0 a1 σ) := by
  unfold f_X3_rowOf
  exact tf_some tn_fr.rf
set_option maxRecDepth 20000 in
theorem fr_X3_part_109  (x2 : Int32) (x4 : Int64) (x6 : Int32) (σ : tn_M) : tf [(19, 999)] σ (F_X3_part_109 x2 x4 x6 σ) := by
  unfold F_X3_part_109
  refine tf_ck (fun hk1 => ?_)
  refine tf_ck (fun hk2 => ?_)
  refine tf_m (tn_fr.sl (by rfl) tn_fr.rf) (fun σ1 hσ1 => ?_)
  refine tf_ck (fun hk3 => ?_)
  refine tf_ck (fun hk4 => ?_)
  refine tf_m (tn_fr.sl (by rfl) hσ1) (fun σ2 hσ2 => ?_)
  exact tf_some hσ2
set_option maxRecDepth 20000 in
theorem fr_X3_part_57  : ∀ (n : Nat) (x2 : Int32) (x3 : Int32) (x4 : Int64) (x6 : Int32) (x8 : Int64) (x10 : Int32) (σ : tn_M), tf [(19, 999)] σ (F_X3_part_57 n x2 x3 x4 x6 x8 x10 σ) := by
  intro n
  induction n with
  | zero => intros; exact tf_none
  | succ tn_n ih =>
    intro x2 x3 x4 x6 x8 x10 σ
    rw [F_X3_part_57]
    refine tf_ite ?_ ?_
    · exact tf_to tn_fr.rf (tf_mo (by decide) (fr_X3_part_109 _ _ _ _))
    · refine tf_ite ?_ ?_
      · refine tf_ck (fun hk1 => ?_)
        refine tf_ck (fun hk2 => ?_)
        refine tf_ck (fun hk3 => ?_)
        refine tf_m (tn_fr.sl (by rfl) tn_fr.rf) (fun σ1 hσ1 => ?_)
        exact tf_to hσ1 (ih _ _ _ _ _ _ _)
      · exact tf_to tn_fr.rf (ih _ _ _ _ _ _ _)
set_option maxRecDepth 20000 in
theorem fr_X3_part_40  (x2 : Int32) (x3 : Int32) (x4 : Int64) (x6 : Int32) (x7 : Int32) (σ : tn_M) : tf [(19, 999)] σ (F_X3_part_40 x2 x3 x4 x6 x7 σ) := by
  unfold F_X3_part_40
  refine tf_ite ?_ ?_
  · exact tf_some tn_fr.rf
  · refine tf_dzl ?_
    refine tf_lt (fun w1 => ?_)
    exact tf_to tn_fr.rf (tf_mo (by decide) (fr_X3_part_57 _ _ _ _ _ _ _ _))
set_option maxRecDepth 20000 in
theorem fr_X3_part_6  : ∀ (n : Nat) (x2 : Int32) (x3 : Int32) (x4 : Int64) (x6 : Int32) (x7 : Int32) (x8 : Int32) (σ : tn_M), tf [(19, 999)] σ (F_X3_part_6 n x2 x3 x4 x6 x7 x8 σ) := by
  intro n
  induction n with
  | zero => intros; exact tf_none
  | succ tn_n ih =>
    intro x2 x3 x4 x6 x7 x8 σ
    rw [F_X3_part_6]
    refine tf_ite ?_ ?_
    · exact tf_to tn_fr.rf (tf_mo (by decide) (fr_X3_part_40 _ _ _ _ _ _))
    · refine tf_ck (fun hk1 => ?_)
      refine tf_lt (fun w1 => ?_)
      exact tf_to tn_fr.rf (ih _ _ _ _ _ _ _)
set_option maxRecDepth 20000 in
theorem fr_X3_part  (a2 : Int32) (a3 : Int32) (a4 : Int64) (a6 : Int32) (σ : tn_M) : tf [(19, 999)] σ (f_X3_part a2 a3 a4 a6 σ) := by
  unfold f_X3_part
  exact tf_to tn_fr.rf (tf_mo (by decide) (fr_X3_part_6 _ _ _ _ _ _ _ _))
set_option maxRecDepth 20000 in
theorem fr_X3_addBuyers_104  (k2 : Nat) (x3 : Int32) (x5 : Int32) (x7 : Int64) (x9 : Int32) (y0 : Int32) (σ : tn_M) : tf [(19, 999)] σ (F_X3_addBuyers_104 k2 x3 x5 x7 x9 y0 σ) := by
  unfold F_X3_addBuyers_104
  refine tf_bd (by decide) (fr_X3_part _ _ _ _ _) tn_fr.rf (fun _ σ1 hσ1 => ?_)
  refine tf_lt (fun v2 => ?_)
  refine tf_bd (by decide) (fr_X3_part _ _ _ _ _) hσ1 (fun _ σ3 hσ3 => ?_)
  exact tf_some hσ3
set_option maxRecDepth 20000 in
theorem fr_X3_addBuyers_92  (k2 : Nat) (x3 : Int32) (x5 : Int32) (x6 : Int32) (x7 : Int64) (x9 : Int32) (σ : tn_M) : tf [(19, 999)] σ (F_X3_addBuyers_92 k2 x3 x5 x6 x7 x9 σ) := by
  unfold F_X3_addBuyers_92
  refine tf_ite ?_ ?_
  · exact tf_to tn_fr.rf (tf_mo (by decide) (fr_X3_addBuyers_104 _ _ _ _ _ _ _))
  · exact tf_to tn_fr.rf (tf_mo (by decide) (fr_X3_addBuyers_104 _ _ _ _ _ _ _))
set_option maxRecDepth 20000 in
theorem fr_X3_addBuyers  (k2 : Nat) (a3 : Int32) (a4 : Int32) (σ : tn_M) : tf [(19, 999)] σ (f_X3_addBuyers k2 a3 a4 σ) := by
  unfold f_X3_addBuyers
  refine tf_bd (by decide) (fr_X3_rowOf _ _ _) tn_fr.rf (fun r2 σ1 hσ1 => ?_)
  refine tf_bd (by decide) (fr_J6_bitCount_0f7a4 _ _) hσ1 (fun r4 σ3 hσ3 => ?_)
  refine tf_lt (fun v5 => ?_)
  refine tf_lt (fun w6 => ?_)
  refine tf_ite ?_ ?_
  · exact tf_to hσ3 (tf_mo (by decide) (fr_X3_addBuyers_92 _ _ _ _ _ _ _))
  · refine tf_ite ?_ ?_
    · refine tf_bd (by decide) (fr_X3_part _ _ _ _ _) hσ3 (fun _ σ7 hσ7 => ?_)
      exact tf_some hσ7
    · exact tf_to hσ3 (tf_mo (by decide) (fr_X3_addBuyers_92 _ _ _ _ _ _ _))
set_option maxRecDepth 20000 in
theorem fr_X3_fill_35 (c23 : Int32 → Int32 → Int32 → tn_M → Option (Unit × tn_M)) (hc23 : ∀ (x2 : Int32) (x3 : Int32) (x4 : Int32) (σ : tn_M), tf [(19, 999)] σ (c23 x2 x3 x4 σ)) : ∀ (n : Nat) (x2 : Int32) (x3 : Int32) (x4 : Int32) (x5 : Int32) (σ : tn_M), tf [(19, 999)] σ (F_X3_fill_35 c23 n x2 x3 x4 x5 σ) := by
  intro n
  induction n with
  | zero => intros; exact tf_none
  | succ tn_n ih =>
    intro x2 x3 x4 x5 σ
    rw [F_X3_fill_35]
    refine tf_ite ?_ ?_
    · exact tf_to tn_fr.rf (tf_mo (by decide) (hc23 _ _ _ _))
    · refine tf_ck (fun hk1 => ?_)
      refine tf_bd (by decide) (fr_X3_addBuyers _ _ _ _) tn_fr.rf (fun _ σ2 hσ2 => ?_)
      exact tf_to hσ2 (ih _ _ _ _ _)
set_option maxRecDepth 20000 in
theorem fr_X3_fill_23  : ∀ (n : Nat) (x2 : Int32) (x3 : Int32) (x4 : Int32) (σ : tn_M), tf [(19, 999)] σ (F_X3_fill_23 n x2 x3 x4 σ) := by
  intro n
  induction n with
  | zero => intros; exact tf_none
  | succ tn_n ih =>
    intro x2 x3 x4 σ
    rw [F_X3_fill_23]
    refine tf_ite ?_ ?_
    · exact tf_some tn_fr.rf
    · exact tf_to tn_fr.rf (tf_mo (by decide) (fr_X3_fill_35 _ (fun _ _ _ _ => ih _ _ _ _) _ _ _ _ _ _))
set_option maxRecDepth 20000 in
theorem fr_X3_fill  (a2 : Int32) (σ : tn_M) : tf [(2, 1), (19, 999)] σ (f_X3_fill a2 σ) := by
  unfold f_X3_fill
  refine tf_m (tn_fr.si rfl tn_fr.rf) (fun σ1 hσ1 => ?_)
  refine tf_bd (by decide) (fr_J7_fill_d0a16 _ _) hσ1 (fun _ σ2 hσ2 => ?_)
  refine tf_lt (fun w3 => ?_)
  exact tf_to hσ2 (tf_mo (by decide) (fr_X3_fill_23 _ _ _ _ _))
set_option maxRecDepth 20000 in
theorem fr_X0_become_9  : ∀ (n : Nat) (x1 : Int32) (x2 : Int32) (x3 : Int32) (σ : tn_M), tf [(24, 999)] σ (F_X0_become_9 n x1 x2 x3 σ) := by
  intro n
  induction n with
  | zero => intros; exact tf_none
  | succ tn_n ih =>
    intro x1 x2 x3 σ
    rw [F_X0_become_9]
    refine tf_ite ?_ ?_
    · exact tf_some tn_fr.rf
    · refine tf_ite ?_ ?_
      · refine tf_ck (fun hk1 => ?_)
        refine tf_ck (fun hk2 => ?_)
        refine tf_m (tn_fr.si (by rfl) tn_fr.rf) (fun σ1 hσ1 => ?_)
        exact tf_to hσ1 (ih _ _ _ _)
      · refine tf_ck (fun hk3 => ?_)
        refine tf_ck (fun hk4 => ?_)
        refine tf_m (tn_fr.si (by rfl) tn_fr.rf) (fun σ2 hσ2 => ?_)
        exact tf_to hσ2 (ih _ _ _ _)
set_option maxRecDepth 20000 in
theorem fr_X0_become  (a1 : Int32) (a2 : Int32) (σ : tn_M) : tf [(20, 999), (24, 999)] σ (f_X0_become a1 a2 σ) := by
  unfold f_X0_become
  refine tf_ck (fun hk1 => ?_)
  refine tf_m (tn_fr.si (by rfl) tn_fr.rf) (fun σ1 hσ1 => ?_)
  exact tf_to hσ1 (tf_mo (by decide) (fr_X0_become_9 _ _ _ _ _))
set_option maxRecDepth 20000 in
theorem fr_X0_begin_80  : ∀ (n : Nat) (x3 : Int32) (σ : tn_M), tf [(20, 999), (24, 999)] σ (F_X0_begin_80 n x3 σ) := by
  intro n
  induction n with
  | zero => intros; exact tf_none
  | succ tn_n ih =>
    intro x3 σ
    rw [F_X0_begin_80]
    refine tf_ite ?_ ?_
    · exact tf_some tn_fr.rf
    · refine tf_ck (fun hk1 => ?_)
      refine tf_bd (by decide) (fr_X0_become _ _ _) tn_fr.rf (fun _ σ1 hσ1 => ?_)
      exact tf_to hσ1 (ih _ _)
set_option maxRecDepth 20000 in
theorem fr_X0_begin   (σ : tn_M) : tf [(3, 8), (3, 9), (3, 10), (3, 11), (3, 12), (20, 999), (21, 999), (22, 999), (24, 999)] σ (f_X0_begin σ) := by
  unfold f_X0_begin
  refine tf_cck ?_
  refine tf_m (tn_fr.cp (fun _ => rfl) tn_fr.rf) (fun σ1 hσ1 => ?_)
  refine tf_bd (by decide) (fr_J7_fill_53178 _ _ _) hσ1 (fun _ σ2 hσ2 => ?_)
  refine tf_cck ?_
  refine tf_m (tn_fr.cp (fun _ => rfl) hσ2) (fun σ3 hσ3 => ?_)
  refine tf_m (tn_fr.si rfl hσ3) (fun σ4 hσ4 => ?_)
  refine tf_m (tn_fr.si rfl hσ4) (fun σ5 hσ5 => ?_)
  refine tf_m (tn_fr.sl rfl hσ5) (fun σ6 hσ6 => ?_)
  refine tf_m (tn_fr.si rfl hσ6) (fun σ7 hσ7 => ?_)
  refine tf_m (tn_fr.si rfl hσ7) (fun σ8 hσ8 => ?_)
  refine tf_bd (by decide) (fr_J7_fill_53178 _ _ _) hσ8 (fun _ σ9 hσ9 => ?_)
  exact tf_to hσ9 (tf_mo (by decide) (fr_X0_begin_80 _ _ _))
set_option maxRecDepth 20000 in
theorem fr_X4_sceneNow_27   (σ : tn_M) : tf [(3, 8), (3, 9), (3, 10), (3, 11), (3, 12), (20, 999), (21, 999), (22, 999), (24, 999)] σ (F_X4_sceneNow_27 σ) := by
  unfold F_X4_sceneNow_27
  refine tf_bd (by decide) (fr_X0_begin _) tn_fr.rf (fun _ σ1 hσ1 => ?_)
  exact tf_some hσ1
set_option maxRecDepth 20000 in
theorem fr_X4_sceneNow   (σ : tn_M) : tf [(2, 1), (3, 8), (3, 9), (3, 10), (3, 11), (3, 12), (19, 999), (20, 999), (21, 999), (22, 999), (24, 999)] σ (f_X4_sceneNow σ) := by
  unfold f_X4_sceneNow
  refine tf_ite ?_ ?_
  · exact tf_to tn_fr.rf (tf_mo (by decide) (fr_X4_sceneNow_27 _))
  · refine tf_bd (by decide) (fr_X3_fill _ _) tn_fr.rf (fun _ σ1 hσ1 => ?_)
    exact tf_to hσ1 (tf_mo (by decide) (fr_X4_sceneNow_27 _))
set_option maxRecDepth 20000 in
theorem fr_X4_open  (a1 : Int32) (σ : tn_M) : tf [(2, 1), (3, 8), (3, 9), (3, 10), (3, 11), (3, 12), (19, 999), (20, 999), (21, 999), (22, 999), (24, 999)] σ (f_X4_open a1 σ) := by
  unfold f_X4_open
  refine tf_ite ?_ ?_
  · exact tf_some tn_fr.rf
  · refine tf_ite ?_ ?_
    · refine tf_bd (by decide) (fr_X4_sceneNow _) tn_fr.rf (fun _ σ1 hσ1 => ?_)
      refine tf_ck (fun hk1 => ?_)
      exact tf_some hσ1
    · exact tf_some tn_fr.rf
set_option maxRecDepth 20000 in
theorem fr_X4_noSide  (a0 : Int32) (σ : tn_M) : tf [] σ (f_X4_noSide a0 σ) := by
  unfold f_X4_noSide
  refine tf_ite ?_ ?_
  · exact tf_some tn_fr.rf
  · refine tf_ite ?_ ?_
    · exact tf_some tn_fr.rf
    · exact tf_some tn_fr.rf
set_option maxRecDepth 20000 in
theorem fr_X4_refused  (a0 : Int32) (σ : tn_M) : tf [] σ (f_X4_refused a0 σ) := by
  unfold f_X4_refused
  exact tf_some tn_fr.rf
set_option maxRecDepth 20000 in
theorem fr_X0_taken_5  : ∀ (n : Nat) (x1 : Int32) (x2 : Int64) (x4 : Int32) (σ : tn_M), tf [] σ (F_X0_taken_5 n x1 x2 x4 σ) := by
  intro n
  induction n with
  | zero => intros; exact tf_none
  | succ tn_n ih =>
    intro x1 x2 x4 σ
    rw [F_X0_taken_5]
    refine tf_ite ?_ ?_
    · exact tf_some tn_fr.rf
    · refine tf_ck (fun hk1 => ?_)
      refine tf_bd (by decide) (fr_X3_rowOf _ _ _) tn_fr.rf (fun r2 σ1 hσ1 => ?_)
      refine tf_ck (fun hk2 => ?_)
      refine tf_ck (fun hk3 => ?_)
      refine tf_lt (fun w3 => ?_)
      exact tf_to hσ1 (ih _ _ _ _)
set_option maxRecDepth 20000 in
theorem fr_X0_taken  (a1 : Int32) (σ : tn_M) : tf [] σ (f_X0_taken a1 σ) := by
  unfold f_X0_taken
  exact tf_to tn_fr.rf (tf_mo (by decide) (fr_X0_taken_5 _ _ _ _ _))
set_option maxRecDepth 20000 in
theorem fr_X0_burden  (a1 : Int32) (a2 : Int32) (σ : tn_M) : tf [] σ (f_X0_burden a1 a2 σ) := by
  unfold f_X0_burden
  refine tf_ck (fun hk1 => ?_)
  refine tf_lt (fun w1 => ?_)
  refine tf_ite ?_ ?_
  · exact tf_some tn_fr.rf
  · refine tf_ck (fun hk2 => ?_)
    refine tf_ite ?_ ?_
    · exact tf_some tn_fr.rf
    · exact tf_some tn_fr.rf
set_option maxRecDepth 20000 in
theorem fr_X0_earning  (a1 : Int32) (σ : tn_M) : tf [] σ (f_X0_earning a1 σ) := by
  unfold f_X0_earning
  refine tf_bd (by decide) (fr_X0_taken _ _) tn_fr.rf (fun r2 σ1 hσ1 => ?_)
  refine tf_ck (fun hk1 => ?_)
  refine tf_bd (by decide) (fr_X0_burden _ _ _) hσ1 (fun r4 σ3 hσ3 => ?_)
  exact tf_some hσ3
set_option maxRecDepth 20000 in
theorem fr_X4_divisor_9  : ∀ (n : Nat) (x4 : Int64) (x6 : Int64) (x8 : Int32) (σ : tn_M), tf [] σ (F_X4_divisor_9 n x4 x6 x8 σ) := by
  intro n
  induction n with
  | zero => intros; exact tf_none
  | succ tn_n ih =>
    intro x4 x6 x8 σ
    rw [F_X4_divisor_9]
    refine tf_ite ?_ ?_
    · exact tf_some tn_fr.rf
    · refine tf_ite ?_ ?_
      · exact tf_some tn_fr.rf
      · refine tf_dzl ?_
        refine tf_lt (fun w1 => ?_)
        exact tf_to tn_fr.rf (ih _ _ _ _)
set_option maxRecDepth 20000 in
theorem fr_X4_divisor  (a0 : Int64) (a2 : Int64) (σ : tn_M) : tf [] σ (f_X4_divisor a0 a2 σ) := by
  unfold f_X4_divisor
  exact tf_to tn_fr.rf (tf_mo (by decide) (fr_X4_divisor_9 _ _ _ _ _))
set_option maxRecDepth 20000 in
theorem fr_X4_fraction  (a0 : Int64) (a2 : Int32) (σ : tn_M) : tf [] σ (f_X4_fraction a0 a2 σ) := by
  unfold f_X4_fraction
  refine tf_bd (by decide) (fr_X4_divisor _ _ _) tn_fr.rf (fun r2 σ1 hσ1 => ?_)
  refine tf_ite ?_ ?_
  · exact tf_some hσ1
  · refine tf_ite ?_ ?_
    · refine tf_dzl ?_
      exact tf_some hσ1
    · refine tf_dzl ?_
      exact tf_some hσ1
set_option maxRecDepth 20000 in
theorem fr_X4_earns_15   (σ : tn_M) : tf [] σ (F_X4_earns_15 σ) := by
  unfold F_X4_earns_15
  refine tf_bd (by decide) (fr_X4_refused _ _) tn_fr.rf (fun r2 σ1 hσ1 => ?_)
  exact tf_some hσ1
set_option maxRecDepth 20000 in
theorem fr_X4_earns  (a1 : Int32) (a2 : Int32) (σ : tn_M) : tf [(2, 1), (3, 8), (3, 9), (3, 10), (3, 11), (3, 12), (19, 999), (20, 999), (21, 999), (22, 999), (24, 999)] σ (f_X4_earns a1 a2 σ) := by
  unfold f_X4_earns
  refine tf_bd (by decide) (fr_X4_noShop _ _) tn_fr.rf (fun r2 σ1 hσ1 => ?_)
  refine tf_ite ?_ ?_
  · refine tf_bd (by decide) (fr_X4_noSide _ _) hσ1 (fun r4 σ3 hσ3 => ?_)
    refine tf_ite ?_ ?_
    · refine tf_bd (by decide) (fr_X4_sceneNow _) hσ3 (fun _ σ5 hσ5 => ?_)
      refine tf_bd (by decide) (fr_X0_earning _ _) hσ5 (fun r7 σ6 hσ6 => ?_)
      refine tf_bd (by decide) (fr_X4_fraction _ _ _) hσ6 (fun r9 σ8 hσ8 => ?_)
      exact tf_some hσ8
    · exact tf_to hσ3 (tf_mo (by decide) (fr_X4_earns_15 _))
  · exact tf_to hσ1 (tf_mo (by decide) (fr_X4_earns_15 _))
set_option maxRecDepth 20000 in
theorem fr_X0_together_8  : ∀ (n : Nat) (x1 : Int64) (x3 : Int32) (σ : tn_M), tf [] σ (F_X0_together_8 n x1 x3 σ) := by
  intro n
  induction n with
  | zero => intros; exact tf_none
  | succ tn_n ih =>
    intro x1 x3 σ
    rw [F_X0_together_8]
    refine tf_ite ?_ ?_
    · exact tf_some tn_fr.rf
    · refine tf_ck (fun hk1 => ?_)
      refine tf_bd (by decide) (fr_X0_burden _ _ _) tn_fr.rf (fun r2 σ1 hσ1 => ?_)
      exact tf_to hσ1 (ih _ _ _)
set_option maxRecDepth 20000 in
theorem fr_X0_together   (σ : tn_M) : tf [] σ (f_X0_together σ) := by
  unfold f_X0_together
  refine tf_bd (by decide) (fr_X0_taken _ _) tn_fr.rf (fun r2 σ1 hσ1 => ?_)
  exact tf_to hσ1 (tf_mo (by decide) (fr_X0_together_8 _ _ _ _))
set_option maxRecDepth 20000 in
theorem fr_X0_aim  (a1 : Int32) (σ : tn_M) : tf [] σ (f_X0_aim a1 σ) := by
  unfold f_X0_aim
  refine tf_ite ?_ ?_
  · refine tf_bd (by decide) (fr_X0_together _) tn_fr.rf (fun r4 σ3 hσ3 => ?_)
    exact tf_some hσ3
  · refine tf_bd (by decide) (fr_X0_taken _ _) tn_fr.rf (fun r2 σ1 hσ1 => ?_)
    exact tf_some hσ1
set_option maxRecDepth 20000 in
theorem fr_X4_all_16   (σ : tn_M) : tf [] σ (F_X4_all_16 σ) := by
  unfold F_X4_all_16
  refine tf_bd (by decide) (fr_X4_refused _ _) tn_fr.rf (fun r2 σ1 hσ1 => ?_)
  exact tf_some hσ1
set_option maxRecDepth 20000 in
theorem fr_X4_all  (a1 : Int32) (a2 : Int32) (σ : tn_M) : tf [(2, 1), (3, 8), (3, 9), (3, 10), (3, 11), (3, 12), (19, 999), (20, 999), (21, 999), (22, 999), (24, 999)] σ (f_X4_all a1 a2 σ) := by
  unfold f_X4_all
  refine tf_ite ?_ ?_
  · exact tf_to tn_fr.rf (tf_mo (by decide) (fr_X4_all_16 _))
  · refine tf_ite ?_ ?_
    · exact tf_to tn_fr.rf (tf_mo (by decide) (fr_X4_all_16 _))
    · refine tf_bd (by decide) (fr_X4_noSide _ _) tn_fr.rf (fun r2 σ1 hσ1 => ?_)
      refine tf_ite ?_ ?_
      · refine tf_bd (by decide) (fr_X4_sceneNow _) hσ1 (fun _ σ3 hσ3 => ?_)
        refine tf_bd (by decide) (fr_X0_aim _ _) hσ3 (fun r5 σ4 hσ4 => ?_)
        refine tf_bd (by decide) (fr_X4_fraction _ _ _) hσ4 (fun r7 σ6 hσ6 => ?_)
        exact tf_some hσ6
      · exact tf_to hσ1 (tf_mo (by decide) (fr_X4_all_16 _))
set_option maxRecDepth 20000 in
theorem fr_X0_weigh_125  : ∀ (n : Nat) (x1 : Int32) (x3 : Int64) (x5 : Int32) (σ : tn_M), tf [(25, 999)] σ (F_X0_weigh_125 n x1 x3 x5 σ) := by
  intro n
  induction n with
  | zero => intros; exact tf_none
  | succ tn_n ih =>
    intro x1 x3 x5 σ
    rw [F_X0_weigh_125]
    refine tf_ite ?_ ?_
    · exact tf_some tn_fr.rf
    · refine tf_ck (fun hk1 => ?_)
      refine tf_lt (fun w1 => ?_)
      refine tf_bd (by decide) (fr_X0_burden _ _ _) tn_fr.rf (fun r3 σ2 hσ2 => ?_)
      refine tf_ck (fun hk2 => ?_)
      refine tf_m (tn_fr.sl (by rfl) hσ2) (fun σ4 hσ4 => ?_)
      exact tf_to hσ4 (ih _ _ _ _)
set_option maxRecDepth 20000 in
theorem fr_X0_weigh_115  (x1 : Int32) (x3 : Int64) (σ : tn_M) : tf [(25, 999)] σ (F_X0_weigh_115 x1 x3 σ) := by
  unfold F_X0_weigh_115
  refine tf_m (tn_fr.sl rfl tn_fr.rf) (fun σ1 hσ1 => ?_)
  exact tf_to hσ1 (tf_mo (by decide) (fr_X0_weigh_125 _ _ _ _ _))
set_option maxRecDepth 20000 in
theorem fr_X0_weigh_9  : ∀ (n : Nat) (x1 : Int32) (x2 : Int32) (x3 : Int64) (x5 : Int32) (σ : tn_M), tf [(25, 999)] σ (F_X0_weigh_9 n x1 x2 x3 x5 σ) := by
  intro n
  induction n with
  | zero => intros; exact tf_none
  | succ tn_n ih =>
    intro x1 x2 x3 x5 σ
    rw [F_X0_weigh_9]
    refine tf_ite ?_ ?_
    · exact tf_to tn_fr.rf (tf_mo (by decide) (fr_X0_weigh_115 _ _ _))
    · refine tf_ck (fun hk1 => ?_)
      refine tf_lt (fun w1 => ?_)
      refine tf_bd (by decide) (fr_X3_rowOf _ _ _) tn_fr.rf (fun r3 σ2 hσ2 => ?_)
      refine tf_ck (fun hk2 => ?_)
      refine tf_ck (fun hk3 => ?_)
      refine tf_lt (fun w4 => ?_)
      refine tf_bd (by decide) (fr_X3_rowOf _ _ _) hσ2 (fun r6 σ5 hσ5 => ?_)
      refine tf_ck (fun hk4 => ?_)
      refine tf_ck (fun hk5 => ?_)
      refine tf_lt (fun w7 => ?_)
      refine tf_ck (fun hk6 => ?_)
      refine tf_m (tn_fr.sl (by rfl) hσ5) (fun σ8 hσ8 => ?_)
      exact tf_to hσ8 (ih _ _ _ _ _)
set_option maxRecDepth 20000 in
theorem fr_X0_weigh  (a1 : Int32) (σ : tn_M) : tf [(25, 999)] σ (f_X0_weigh a1 σ) := by
  unfold f_X0_weigh
  refine tf_lt (fun w1 => ?_)
  exact tf_to tn_fr.rf (tf_mo (by decide) (fr_X0_weigh_9 _ _ _ _ _ _))
set_option maxRecDepth 20000 in
theorem fr_X0_reply_9  : ∀ (n : Nat) (x1 : Int32) (x2 : Int32) (x3 : Int32) (σ : tn_M), tf [] σ (F_X0_reply_9 n x1 x2 x3 σ) := by
  intro n
  induction n with
  | zero => intros; exact tf_none
  | succ tn_n ih =>
    intro x1 x2 x3 σ
    rw [F_X0_reply_9]
    refine tf_ck (fun hk1 => ?_)
    refine tf_ite ?_ ?_
    · exact tf_some tn_fr.rf
    · refine tf_ck (fun hk2 => ?_)
      refine tf_ck (fun hk3 => ?_)
      refine tf_ite ?_ ?_
      · exact tf_to tn_fr.rf (ih _ _ _ _)
      · exact tf_to tn_fr.rf (ih _ _ _ _)
set_option maxRecDepth 20000 in
theorem fr_X0_reply  (a1 : Int32) (σ : tn_M) : tf [(25, 999)] σ (f_X0_reply a1 σ) := by
  unfold f_X0_reply
  refine tf_bd (by decide) (fr_X0_weigh _ _) tn_fr.rf (fun _ σ1 hσ1 => ?_)
  exact tf_to hσ1 (tf_mo (by decide) (fr_X0_reply_9 _ _ _ _ _))
set_option maxRecDepth 20000 in
theorem fr_X4_answer  (a1 : Int32) (σ : tn_M) : tf [(2, 1), (3, 8), (3, 9), (3, 10), (3, 11), (3, 12), (19, 999), (20, 999), (21, 999), (22, 999), (24, 999), (25, 999)] σ (f_X4_answer a1 σ) := by
  unfold f_X4_answer
  refine tf_bd (by decide) (fr_X4_noShop _ _) tn_fr.rf (fun r2 σ1 hσ1 => ?_)
  refine tf_ite ?_ ?_
  · refine tf_bd (by decide) (fr_X4_sceneNow _) hσ1 (fun _ σ3 hσ3 => ?_)
    refine tf_bd (by decide) (fr_X0_reply _ _) hσ3 (fun r5 σ4 hσ4 => ?_)
    exact tf_some hσ4
  · exact tf_some hσ1
set_option maxRecDepth 20000 in
theorem fr_X0_runDown_79  (x1 : Int32) (σ : tn_M) : tf [(3, 12)] σ (F_X0_runDown_79 x1 σ) := by
  unfold F_X0_runDown_79
  refine tf_m (tn_fr.si rfl tn_fr.rf) (fun σ1 hσ1 => ?_)
  exact tf_some hσ1
set_option maxRecDepth 20000 in
theorem fr_X0_runDown_75 (c2 : Int32 → tn_M → Option (Int32 × tn_M)) (hc2 : ∀ (x1 : Int32) (σ : tn_M), tf [(3, 12), (20, 999), (24, 999), (25, 999)] σ (c2 x1 σ)) (x1 : Int32) (x2 : Int32) (σ : tn_M) : tf [(3, 12), (20, 999), (24, 999), (25, 999)] σ (F_X0_runDown_75 c2 x1 x2 σ) := by
  unfold F_X0_runDown_75
  refine tf_ite ?_ ?_
  · exact tf_to tn_fr.rf (tf_mo (by decide) (fr_X0_runDown_79 _ _))
  · exact tf_to tn_fr.rf (tf_mo (by decide) (hc2 _ _))
set_option maxRecDepth 20000 in
theorem fr_X0_runDown_12 (c2 : Int32 → tn_M → Option (Int32 × tn_M)) (hc2 : ∀ (x1 : Int32) (σ : tn_M), tf [(3, 12), (20, 999), (24, 999), (25, 999)] σ (c2 x1 σ)) : ∀ (n : Nat) (x1 : Int32) (x2 : Int32) (x3 : Int32) (σ : tn_M), tf [(3, 12), (20, 999), (24, 999), (25, 999)] σ (F_X0_runDown_12 c2 n x1 x2 x3 σ) := by
  intro n
  induction n with
  | zero => intros; exact tf_none
  | succ tn_n ih =>
    intro x1 x2 x3 σ
    rw [F_X0_runDown_12]
    refine tf_ite ?_ ?_
    · exact tf_to tn_fr.rf (tf_mo (by decide) (fr_X0_runDown_75 _ hc2 _ _ _))
    · refine tf_bd (by decide) (fr_X0_reply _ _) tn_fr.rf (fun r2 σ1 hσ1 => ?_)
      refine tf_ite ?_ ?_
      · exact tf_to hσ1 (ih _ _ _ _)
      · refine tf_ck (fun hk1 => ?_)
        refine tf_ck (fun hk2 => ?_)
        refine tf_ck (fun hk3 => ?_)
        refine tf_ite ?_ ?_
        · exact tf_to hσ1 (ih _ _ _ _)
        · refine tf_bd (by decide) (fr_X0_become _ _ _) hσ1 (fun _ σ3 hσ3 => ?_)
          exact tf_to hσ3 (ih _ _ _ _)
set_option maxRecDepth 20000 in
theorem fr_X0_runDown_2  : ∀ (n : Nat) (x1 : Int32) (σ : tn_M), tf [(3, 12), (20, 999), (24, 999), (25, 999)] σ (F_X0_runDown_2 n x1 σ) := by
  intro n
  induction n with
  | zero => intros; exact tf_none
  | succ tn_n ih =>
    intro x1 σ
    rw [F_X0_runDown_2]
    refine tf_ite ?_ ?_
    · exact tf_some tn_fr.rf
    · exact tf_to tn_fr.rf (tf_mo (by decide) (fr_X0_runDown_12 _ (fun _ _ => ih _ _) _ _ _ _ _))
set_option maxRecDepth 20000 in
theorem fr_X0_runDown   (σ : tn_M) : tf [(3, 12), (20, 999), (24, 999), (25, 999)] σ (f_X0_runDown σ) := by
  unfold f_X0_runDown
  exact tf_to tn_fr.rf (tf_mo (by decide) (fr_X0_runDown_2 _ _ _))
set_option maxRecDepth 20000 in
theorem fr_X4_rest_16  (x1 : Int32) (σ : tn_M) : tf [(2, 1), (3, 8), (3, 9), (3, 10), (3, 11), (3, 12), (19, 999), (20, 999), (21, 999), (22, 999), (24, 999), (25, 999)] σ (F_X4_rest_16 x1 σ) := by
  unfold F_X4_rest_16
  refine tf_bd (by decide) (fr_X4_sceneNow _) tn_fr.rf (fun _ σ1 hσ1 => ?_)
  refine tf_bd (by decide) (fr_X0_runDown _) hσ1 (fun r3 σ2 hσ2 => ?_)
  refine tf_ite ?_ ?_
  · exact tf_some hσ2
  · refine tf_ite ?_ ?_
    · exact tf_some hσ2
    · refine tf_ck (fun hk1 => ?_)
      exact tf_some hσ2
set_option maxRecDepth 20000 in
theorem fr_X4_rest  (a1 : Int32) (σ : tn_M) : tf [(2, 1), (3, 8), (3, 9), (3, 10), (3, 11), (3, 12), (19, 999), (20, 999), (21, 999), (22, 999), (24, 999), (25, 999)] σ (f_X4_rest a1 σ) := by
  unfold f_X4_rest
  refine tf_ite ?_ ?_
  · exact tf_to tn_fr.rf (tf_mo (by decide) (fr_X4_rest_16 _ _))
  · refine tf_bd (by decide) (fr_X4_noShop _ _) tn_fr.rf (fun r2 σ1 hσ1 => ?_)
    refine tf_ite ?_ ?_
    · exact tf_to hσ1 (tf_mo (by decide) (fr_X4_rest_16 _ _))
    · exact tf_some hσ1
set_option maxRecDepth 20000 in
theorem fr_X0_profiles   (σ : tn_M) : tf [] σ (f_X0_profiles σ) := by
  unfold f_X0_profiles
  exact tf_some tn_fr.rf
set_option maxRecDepth 20000 in
theorem fr_X0_digit  (a1 : Int32) (a2 : Int32) (σ : tn_M) : tf [] σ (f_X0_digit a1 a2 σ) := by
  unfold f_X0_digit
  exact tf_some tn_fr.rf
set_option maxRecDepth 20000 in
theorem fr_X0_place_2  : ∀ (n : Nat) (x1 : Int32) (x2 : Int32) (σ : tn_M), tf [(20, 999), (24, 999)] σ (F_X0_place_2 n x1 x2 σ) := by
  intro n
  induction n with
  | zero => intros; exact tf_none
  | succ tn_n ih =>
    intro x1 x2 σ
    rw [F_X0_place_2]
    refine tf_ite ?_ ?_
    · exact tf_some tn_fr.rf
    · refine tf_bd (by decide) (fr_X0_digit _ _ _) tn_fr.rf (fun r2 σ1 hσ1 => ?_)
      refine tf_bd (by decide) (fr_X0_become _ _ _) hσ1 (fun _ σ3 hσ3 => ?_)
      exact tf_to hσ3 (ih _ _ _)
set_option maxRecDepth 20000 in
theorem fr_X0_place  (a1 : Int32) (σ : tn_M) : tf [(20, 999), (24, 999)] σ (f_X0_place a1 σ) := by
  unfold f_X0_place
  exact tf_to tn_fr.rf (tf_mo (by decide) (fr_X0_place_2 _ _ _ _))
set_option maxRecDepth 20000 in
theorem fr_X0_firstGainer_2  : ∀ (n : Nat) (x1 : Int32) (σ : tn_M), tf [(25, 999)] σ (F_X0_firstGainer_2 n x1 σ) := by
  intro n
  induction n with
  | zero => intros; exact tf_none
  | succ tn_n ih =>
    intro x1 σ
    rw [F_X0_firstGainer_2]
    refine tf_ite ?_ ?_
    · exact tf_some tn_fr.rf
    · refine tf_bd (by decide) (fr_X0_reply _ _) tn_fr.rf (fun r2 σ1 hσ1 => ?_)
      refine tf_ck (fun hk1 => ?_)
      refine tf_ck (fun hk2 => ?_)
      refine tf_ck (fun hk3 => ?_)
      refine tf_ite ?_ ?_
      · exact tf_to hσ1 (ih _ _)
      · exact tf_some hσ1
set_option maxRecDepth 20000 in
theorem fr_X0_firstGainer   (σ : tn_M) : tf [(25, 999)] σ (f_X0_firstGainer σ) := by
  unfold f_X0_firstGainer
  exact tf_to tn_fr.rf (tf_mo (by decide) (fr_X0_firstGainer_2 _ _ _))
set_option maxRecDepth 20000 in
theorem fr_X0_advance_24  (x1 : Int32) (σ : tn_M) : tf [(20, 999), (24, 999)] σ (F_X0_advance_24 x1 σ) := by
  unfold F_X0_advance_24
  refine tf_ck (fun hk1 => ?_)
  refine tf_bd (by decide) (fr_X0_become _ _ _) tn_fr.rf (fun _ σ1 hσ1 => ?_)
  exact tf_some hσ1
set_option maxRecDepth 20000 in
theorem fr_X0_advance_10  : ∀ (n : Nat) (x1 : Int32) (σ : tn_M), tf [(20, 999), (24, 999)] σ (F_X0_advance_10 n x1 σ) := by
  intro n
  induction n with
  | zero => intros; exact tf_none
  | succ tn_n ih =>
    intro x1 σ
    rw [F_X0_advance_10]
    refine tf_ite ?_ ?_
    · exact tf_some tn_fr.rf
    · refine tf_ck (fun hk1 => ?_)
      refine tf_ite ?_ ?_
      · refine tf_bd (by decide) (fr_X0_become _ _ _) tn_fr.rf (fun _ σ1 hσ1 => ?_)
        exact tf_to hσ1 (ih _ _)
      · exact tf_to tn_fr.rf (tf_mo (by decide) (fr_X0_advance_24 _ _))
set_option maxRecDepth 20000 in
theorem fr_X0_advance   (σ : tn_M) : tf [(20, 999), (24, 999)] σ (f_X0_advance σ) := by
  unfold f_X0_advance
  refine tf_lt (fun w1 => ?_)
  exact tf_to tn_fr.rf (tf_mo (by decide) (fr_X0_advance_10 _ _ _))
set_option maxRecDepth 20000 in
theorem fr_X4_countStill_37 (c20 : Int32 → Int32 → Int32 → tn_M → Option (Int32 × tn_M)) (hc20 : ∀ (x2 : Int32) (x3 : Int32) (x4 : Int32) (σ : tn_M), tf [(20, 999), (24, 999), (25, 999)] σ (c20 x2 x3 x4 σ)) (x2 : Int32) (x3 : Int32) (x4 : Int32) (σ : tn_M) : tf [(20, 999), (24, 999), (25, 999)] σ (F_X4_countStill_37 c20 x2 x3 x4 σ) := by
  unfold F_X4_countStill_37
  refine tf_bd (by decide) (fr_X0_advance _) tn_fr.rf (fun _ σ1 hσ1 => ?_)
  exact tf_to hσ1 (tf_mo (by decide) (hc20 _ _ _ _))
set_option maxRecDepth 20000 in
theorem fr_X4_countStill_20  : ∀ (n : Nat) (x2 : Int32) (x3 : Int32) (x4 : Int32) (σ : tn_M), tf [(20, 999), (24, 999), (25, 999)] σ (F_X4_countStill_20 n x2 x3 x4 σ) := by
  intro n
  induction n with
  | zero => intros; exact tf_none
  | succ tn_n ih =>
    intro x2 x3 x4 σ
    rw [F_X4_countStill_20]
    refine tf_ite ?_ ?_
    · exact tf_some tn_fr.rf
    · refine tf_bd (by decide) (fr_X0_firstGainer _) tn_fr.rf (fun r2 σ1 hσ1 => ?_)
      refine tf_ite ?_ ?_
      · exact tf_to hσ1 (tf_mo (by decide) (fr_X4_countStill_37 _ (fun _ _ _ _ => ih _ _ _ _) _ _ _ _))
      · exact tf_to hσ1 (tf_mo (by decide) (fr_X4_countStill_37 _ (fun _ _ _ _ => ih _ _ _ _) _ _ _ _))
set_option maxRecDepth 20000 in
theorem fr_X4_countStill   (σ : tn_M) : tf [(2, 1), (3, 8), (3, 9), (3, 10), (3, 11), (3, 12), (19, 999), (20, 999), (21, 999), (22, 999), (24, 999), (25, 999)] σ (f_X4_countStill σ) := by
  unfold f_X4_countStill
  refine tf_bd (by decide) (fr_X4_sceneNow _) tn_fr.rf (fun _ σ1 hσ1 => ?_)
  refine tf_bd (by decide) (fr_X0_profiles _) hσ1 (fun r3 σ2 hσ2 => ?_)
  refine tf_bd (by decide) (fr_X0_place _ _) hσ2 (fun _ σ4 hσ4 => ?_)
  exact tf_to hσ4 (tf_mo (by decide) (fr_X4_countStill_20 _ _ _ _ _))
set_option maxRecDepth 20000 in
theorem fr_X4_still_83 (c52 : Int32 → Int32 → Int32 → Int32 → Int32 → tn_M → Option (Int32 × tn_M)) (hc52 : ∀ (x1 : Int32) (x2 : Int32) (x4 : Int32) (x5 : Int32) (x6 : Int32) (σ : tn_M), tf [(20, 999), (24, 999), (25, 999)] σ (c52 x1 x2 x4 x5 x6 σ)) (x1 : Int32) (x2 : Int32) (x4 : Int32) (x5 : Int32) (x6 : Int32) (σ : tn_M) : tf [(20, 999), (24, 999), (25, 999)] σ (F_X4_still_83 c52 x1 x2 x4 x5 x6 σ) := by
  unfold F_X4_still_83
  refine tf_bd (by decide) (fr_X0_advance _) tn_fr.rf (fun _ σ1 hσ1 => ?_)
  exact tf_to hσ1 (tf_mo (by decide) (hc52 _ _ _ _ _ _))
set_option maxRecDepth 20000 in
theorem fr_X4_still_52  : ∀ (n : Nat) (x1 : Int32) (x2 : Int32) (x4 : Int32) (x5 : Int32) (x6 : Int32) (σ : tn_M), tf [(20, 999), (24, 999), (25, 999)] σ (F_X4_still_52 n x1 x2 x4 x5 x6 σ) := by
  intro n
  induction n with
  | zero => intros; exact tf_none
  | succ tn_n ih =>
    intro x1 x2 x4 x5 x6 σ
    rw [F_X4_still_52]
    refine tf_ite ?_ ?_
    · exact tf_some tn_fr.rf
    · refine tf_bd (by decide) (fr_X0_firstGainer _) tn_fr.rf (fun r2 σ1 hσ1 => ?_)
      refine tf_ite ?_ ?_
      · refine tf_ite ?_ ?_
        · refine tf_ck (fun hk1 => ?_)
          exact tf_some hσ1
        · exact tf_to hσ1 (tf_mo (by decide) (fr_X4_still_83 _ (fun _ _ _ _ _ _ => ih _ _ _ _ _ _) _ _ _ _ _ _))
      · exact tf_to hσ1 (tf_mo (by decide) (fr_X4_still_83 _ (fun _ _ _ _ _ _ => ih _ _ _ _ _ _) _ _ _ _ _ _))
set_option maxRecDepth 20000 in
theorem fr_X4_still_15  (x1 : Int32) (x2 : Int32) (σ : tn_M) : tf [(2, 1), (3, 8), (3, 9), (3, 10), (3, 11), (3, 12), (19, 999), (20, 999), (21, 999), (22, 999), (24, 999), (25, 999)] σ (F_X4_still_15 x1 x2 σ) := by
  unfold F_X4_still_15
  refine tf_ite ?_ ?_
  · exact tf_some tn_fr.rf
  · refine tf_bd (by decide) (fr_X4_noShop _ _) tn_fr.rf (fun r2 σ1 hσ1 => ?_)
    refine tf_ite ?_ ?_
    · refine tf_bd (by decide) (fr_X4_sceneNow _) hσ1 (fun _ σ3 hσ3 => ?_)
      refine tf_bd (by decide) (fr_X0_profiles _) hσ3 (fun r5 σ4 hσ4 => ?_)
      refine tf_bd (by decide) (fr_X0_place _ _) hσ4 (fun _ σ6 hσ6 => ?_)
      exact tf_to hσ6 (tf_mo (by decide) (fr_X4_still_52 _ _ _ _ _ _ _))
    · exact tf_some hσ1
set_option maxRecDepth 20000 in
theorem fr_X4_still  (a1 : Int32) (a2 : Int32) (σ : tn_M) : tf [(2, 1), (3, 8), (3, 9), (3, 10), (3, 11), (3, 12), (19, 999), (20, 999), (21, 999), (22, 999), (24, 999), (25, 999)] σ (f_X4_still a1 a2 σ) := by
  unfold f_X4_still
  refine tf_ite ?_ ?_
  · refine tf_ite ?_ ?_
    · refine tf_bd (by decide) (fr_X4_countStill _) tn_fr.rf (fun r2 σ1 hσ1 => ?_)
      exact tf_some hσ1
    · exact tf_to tn_fr.rf (tf_mo (by decide) (fr_X4_still_15 _ _ _))
  · exact tf_to tn_fr.rf (tf_mo (by decide) (fr_X4_still_15 _ _ _))
set_option maxRecDepth 20000 in
theorem fr_X4_bestCode_55 (c26 : Int32 → Int32 → Int32 → Int64 → Int32 → tn_M → Option (Int32 × tn_M)) (hc26 : ∀ (x1 : Int32) (x3 : Int32) (x4 : Int32) (x5 : Int64) (x7 : Int32) (σ : tn_M), tf [(20, 999), (24, 999)] σ (c26 x1 x3 x4 x5 x7 σ)) (x1 : Int32) (x3 : Int32) (x4 : Int32) (x5 : Int64) (x7 : Int32) (σ : tn_M) : tf [(20, 999), (24, 999)] σ (F_X4_bestCode_55 c26 x1 x3 x4 x5 x7 σ) := by
  unfold F_X4_bestCode_55
  refine tf_bd (by decide) (fr_X0_advance _) tn_fr.rf (fun _ σ1 hσ1 => ?_)
  exact tf_to hσ1 (tf_mo (by decide) (hc26 _ _ _ _ _ _))
set_option maxRecDepth 20000 in
theorem fr_X4_bestCode_26  : ∀ (n : Nat) (x1 : Int32) (x3 : Int32) (x4 : Int32) (x5 : Int64) (x7 : Int32) (σ : tn_M), tf [(20, 999), (24, 999)] σ (F_X4_bestCode_26 n x1 x3 x4 x5 x7 σ) := by
  intro n
  induction n with
  | zero => intros; exact tf_none
  | succ tn_n ih =>
    intro x1 x3 x4 x5 x7 σ
    rw [F_X4_bestCode_26]
    refine tf_ite ?_ ?_
    · exact tf_some tn_fr.rf
    · refine tf_bd (by decide) (fr_X0_aim _ _) tn_fr.rf (fun r2 σ1 hσ1 => ?_)
      refine tf_ite ?_ ?_
      · exact tf_to hσ1 (tf_mo (by decide) (fr_X4_bestCode_55 _ (fun _ _ _ _ _ _ => ih _ _ _ _ _ _) _ _ _ _ _ _))
      · exact tf_to hσ1 (tf_mo (by decide) (fr_X4_bestCode_55 _ (fun _ _ _ _ _ _ => ih _ _ _ _ _ _) _ _ _ _ _ _))
set_option maxRecDepth 20000 in
theorem fr_X4_bestCode  (a1 : Int32) (σ : tn_M) : tf [(2, 1), (3, 8), (3, 9), (3, 10), (3, 11), (3, 12), (19, 999), (20, 999), (21, 999), (22, 999), (24, 999)] σ (f_X4_bestCode a1 σ) := by
  unfold f_X4_bestCode
  refine tf_bd (by decide) (fr_X4_sceneNow _) tn_fr.rf (fun _ σ1 hσ1 => ?_)
  refine tf_bd (by decide) (fr_X0_profiles _) hσ1 (fun r3 σ2 hσ2 => ?_)
  refine tf_lt (fun w4 => ?_)
  refine tf_bd (by decide) (fr_X0_place _ _) hσ2 (fun _ σ5 hσ5 => ?_)
  exact tf_to hσ5 (tf_mo (by decide) (fr_X4_bestCode_26 _ _ _ _ _ _ _))
set_option maxRecDepth 20000 in
theorem fr_X4_placedBest  (a1 : Int32) (σ : tn_M) : tf [(2, 1), (3, 8), (3, 9), (3, 10), (3, 11), (3, 12), (19, 999), (20, 999), (21, 999), (22, 999), (24, 999)] σ (f_X4_placedBest a1 σ) := by
  unfold f_X4_placedBest
  refine tf_bd (by decide) (fr_X4_bestCode _ _) tn_fr.rf (fun r2 σ1 hσ1 => ?_)
  refine tf_bd (by decide) (fr_X0_place _ _) hσ1 (fun _ σ3 hσ3 => ?_)
  exact tf_some hσ3
set_option maxRecDepth 20000 in
theorem fr_X4_best  (a1 : Int32) (a2 : Int32) (σ : tn_M) : tf [(2, 1), (3, 8), (3, 9), (3, 10), (3, 11), (3, 12), (19, 999), (20, 999), (21, 999), (22, 999), (24, 999)] σ (f_X4_best a1 a2 σ) := by
  unfold f_X4_best
  refine tf_ite ?_ ?_
  · exact tf_some tn_fr.rf
  · refine tf_ite ?_ ?_
    · exact tf_some tn_fr.rf
    · refine tf_bd (by decide) (fr_X4_noShop _ _) tn_fr.rf (fun r2 σ1 hσ1 => ?_)
      refine tf_ite ?_ ?_
      · refine tf_bd (by decide) (fr_X4_placedBest _ _) hσ1 (fun _ σ3 hσ3 => ?_)
        refine tf_ck (fun hk1 => ?_)
        exact tf_some hσ3
      · exact tf_some hσ1
set_option maxRecDepth 20000 in
theorem fr_X4_loss  (a1 : Int32) (σ : tn_M) : tf [(2, 1), (3, 8), (3, 9), (3, 10), (3, 11), (3, 12), (19, 999), (20, 999), (21, 999), (22, 999), (24, 999)] σ (f_X4_loss a1 σ) := by
  unfold f_X4_loss
  refine tf_bd (by decide) (fr_X4_noSide _ _) tn_fr.rf (fun r2 σ1 hσ1 => ?_)
  refine tf_ite ?_ ?_
  · refine tf_bd (by decide) (fr_X4_placedBest _ _) hσ1 (fun _ σ3 hσ3 => ?_)
    refine tf_bd (by decide) (fr_X0_together _) hσ3 (fun r5 σ4 hσ4 => ?_)
    refine tf_bd (by decide) (fr_X4_sceneNow _) hσ4 (fun _ σ6 hσ6 => ?_)
    refine tf_bd (by decide) (fr_X0_together _) hσ6 (fun r8 σ7 hσ7 => ?_)
    refine tf_bd (by decide) (fr_X4_fraction _ _ _) hσ7 (fun r10 σ9 hσ9 => ?_)
    exact tf_some hσ9
  · refine tf_bd (by decide) (fr_X4_refused _ _) hσ1 (fun r12 σ11 hσ11 => ?_)
    exact tf_some hσ11
set_option maxRecDepth 20000 in
theorem fr_X0_bound  (a1 : Int32) (σ : tn_M) : tf [] σ (f_X0_bound a1 σ) := by
  unfold f_X0_bound
  refine tf_ck (fun hk1 => ?_)
  refine tf_lt (fun v1 => ?_)
  exact tf_zr tn_fr.rf
set_option maxRecDepth 20000 in
theorem fr_X0_keepLaw_2  : ∀ (n : Nat) (x1 : Int32) (σ : tn_M), tf [(20, 999), (24, 999)] σ (F_X0_keepLaw_2 n x1 σ) := by
  intro n
  induction n with
  | zero => intros; exact tf_none
  | succ tn_n ih =>
    intro x1 σ
    rw [F_X0_keepLaw_2]
    refine tf_ite ?_ ?_
    · exact tf_some tn_fr.rf
    · refine tf_bd (by decide) (fr_X0_bound _ _) tn_fr.rf (fun r2 σ1 hσ1 => ?_)
      refine tf_ite ?_ ?_
      · exact tf_to hσ1 (ih _ _)
      · refine tf_ck (fun hk1 => ?_)
        refine tf_bd (by decide) (fr_X0_become _ _ _) hσ1 (fun _ σ3 hσ3 => ?_)
        exact tf_to hσ3 (ih _ _)
set_option maxRecDepth 20000 in
theorem fr_X0_keepLaw   (σ : tn_M) : tf [(20, 999), (24, 999)] σ (f_X0_keepLaw σ) := by
  unfold f_X0_keepLaw
  exact tf_to tn_fr.rf (tf_mo (by decide) (fr_X0_keepLaw_2 _ _ _))
set_option maxRecDepth 20000 in
theorem fr_X0_lawlessGain_36 (c4 : Int64 → Int32 → tn_M → Option (Int64 × tn_M)) (hc4 : ∀ (x1 : Int64) (x3 : Int32) (σ : tn_M), tf [(25, 999)] σ (c4 x1 x3 σ)) : ∀ (n : Nat) (x1 : Int64) (x3 : Int32) (x4 : Int32) (σ : tn_M), tf [(25, 999)] σ (F_X0_lawlessGain_36 c4 n x1 x3 x4 σ) := by
  intro n
  induction n with
  | zero => intros; exact tf_none
  | succ tn_n ih =>
    intro x1 x3 x4 σ
    rw [F_X0_lawlessGain_36]
    refine tf_ite ?_ ?_
    · exact tf_to tn_fr.rf (tf_mo (by decide) (hc4 _ _ _))
    · refine tf_ck (fun hk1 => ?_)
      refine tf_ck (fun hk2 => ?_)
      refine tf_ck (fun hk3 => ?_)
      refine tf_lt (fun w1 => ?_)
      exact tf_to tn_fr.rf (ih _ _ _ _)
set_option maxRecDepth 20000 in
theorem fr_X0_lawlessGain_4  : ∀ (n : Nat) (x1 : Int64) (x3 : Int32) (σ : tn_M), tf [(25, 999)] σ (F_X0_lawlessGain_4 n x1 x3 σ) := by
  intro n
  induction n with
  | zero => intros; exact tf_none
  | succ tn_n ih =>
    intro x1 x3 σ
    rw [F_X0_lawlessGain_4]
    refine tf_ite ?_ ?_
    · exact tf_some tn_fr.rf
    · refine tf_bd (by decide) (fr_X0_bound _ _) tn_fr.rf (fun r2 σ1 hσ1 => ?_)
      refine tf_ite ?_ ?_
      · exact tf_to hσ1 (ih _ _ _)
      · refine tf_bd (by decide) (fr_X0_weigh _ _) hσ1 (fun _ σ3 hσ3 => ?_)
        refine tf_lt (fun w4 => ?_)
        exact tf_to hσ3 (tf_mo (by decide) (fr_X0_lawlessGain_36 _ (fun _ _ _ => ih _ _ _) _ _ _ _ _))
set_option maxRecDepth 20000 in
theorem fr_X0_lawlessGain   (σ : tn_M) : tf [(25, 999)] σ (f_X0_lawlessGain σ) := by
  unfold f_X0_lawlessGain
  exact tf_to tn_fr.rf (tf_mo (by decide) (fr_X0_lawlessGain_4 _ _ _ _))
set_option maxRecDepth 20000 in
theorem fr_X4_ceiling  (a0 : Int64) (a2 : Int64) (σ : tn_M) : tf [] σ (f_X4_ceiling a0 a2 σ) := by
  unfold f_X4_ceiling
  refine tf_ite ?_ ?_
  · exact tf_some tn_fr.rf
  · refine tf_ite ?_ ?_
    · refine tf_dzl ?_
      exact tf_some tn_fr.rf
    · exact tf_some tn_fr.rf
set_option maxRecDepth 20000 in
theorem fr_X4_leastFine   (σ : tn_M) : tf [(2, 1), (3, 8), (3, 9), (3, 10), (3, 11), (3, 12), (19, 999), (20, 999), (21, 999), (22, 999), (24, 999), (25, 999)] σ (f_X4_leastFine σ) := by
  unfold f_X4_leastFine
  refine tf_bd (by decide) (fr_X4_sceneNow _) tn_fr.rf (fun _ σ1 hσ1 => ?_)
  refine tf_m (tn_fr.sl rfl hσ1) (fun σ2 hσ2 => ?_)
  refine tf_bd (by decide) (fr_X0_keepLaw _) hσ2 (fun _ σ3 hσ3 => ?_)
  refine tf_bd (by decide) (fr_X0_lawlessGain _) hσ3 (fun r5 σ4 hσ4 => ?_)
  refine tf_ite ?_ ?_
  · refine tf_ite ?_ ?_
    · exact tf_some hσ4
    · refine tf_bd (by decide) (fr_X4_ceiling _ _ _) hσ4 (fun r7 σ6 hσ6 => ?_)
      refine tf_lt (fun v8 => ?_)
      exact tf_some hσ6
  · exact tf_some hσ4
set_option maxRecDepth 20000 in
theorem fr_X0_openTillNine_2  : ∀ (n : Nat) (x1 : Int32) (x2 : Int32) (σ : tn_M), tf [(20, 999), (24, 999)] σ (F_X0_openTillNine_2 n x1 x2 σ) := by
  intro n
  induction n with
  | zero => intros; exact tf_none
  | succ tn_n ih =>
    intro x1 x2 σ
    rw [F_X0_openTillNine_2]
    refine tf_ite ?_ ?_
    · exact tf_some tn_fr.rf
    · refine tf_bd (by decide) (fr_X0_become _ _ _) tn_fr.rf (fun _ σ1 hσ1 => ?_)
      exact tf_to hσ1 (ih _ _ _)
set_option maxRecDepth 20000 in
theorem fr_X0_openTillNine  (a1 : Int32) (σ : tn_M) : tf [(20, 999), (24, 999)] σ (f_X0_openTillNine a1 σ) := by
  unfold f_X0_openTillNine
  exact tf_to tn_fr.rf (tf_mo (by decide) (fr_X0_openTillNine_2 _ _ _ _))
set_option maxRecDepth 20000 in
theorem fr_X0_limitBound_2  : ∀ (n : Nat) (x1 : Int32) (x2 : Int32) (σ : tn_M), tf [(21, 999)] σ (F_X0_limitBound_2 n x1 x2 σ) := by
  intro n
  induction n with
  | zero => intros; exact tf_none
  | succ tn_n ih =>
    intro x1 x2 σ
    rw [F_X0_limitBound_2]
    refine tf_ite ?_ ?_
    · exact tf_some tn_fr.rf
    · refine tf_bd (by decide) (fr_X0_bound _ _) tn_fr.rf (fun r2 σ1 hσ1 => ?_)
      refine tf_lt (fun v3 => ?_)
      refine tf_ck (fun hk1 => ?_)
      refine tf_m (tn_fr.si (by rfl) hσ1) (fun σ4 hσ4 => ?_)
      exact tf_to hσ4 (ih _ _ _)
set_option maxRecDepth 20000 in
theorem fr_X0_limitBound  (a1 : Int32) (σ : tn_M) : tf [(21, 999)] σ (f_X0_limitBound a1 σ) := by
  unfold f_X0_limitBound
  exact tf_to tn_fr.rf (tf_mo (by decide) (fr_X0_limitBound_2 _ _ _ _))
set_option maxRecDepth 20000 in
theorem fr_X4_restsUnder  (a1 : Int32) (σ : tn_M) : tf [(2, 1), (3, 8), (3, 9), (3, 10), (3, 11), (3, 12), (19, 999), (20, 999), (21, 999), (22, 999), (24, 999), (25, 999)] σ (f_X4_restsUnder a1 σ) := by
  unfold f_X4_restsUnder
  refine tf_bd (by decide) (fr_X4_sceneNow _) tn_fr.rf (fun _ σ1 hσ1 => ?_)
  refine tf_m (tn_fr.sl rfl hσ1) (fun σ2 hσ2 => ?_)
  refine tf_bd (by decide) (fr_X0_openTillNine _ _) hσ2 (fun _ σ3 hσ3 => ?_)
  refine tf_bd (by decide) (fr_X0_limitBound _ _) hσ3 (fun _ σ4 hσ4 => ?_)
  refine tf_bd (by decide) (fr_X0_runDown _) hσ4 (fun r6 σ5 hσ5 => ?_)
  exact tf_zr hσ5
set_option maxRecDepth 20000 in
theorem fr_X4_bestCapNow_43 (c7 : Int32 → Int64 → Int32 → tn_M → Option (Int32 × tn_M)) (hc7 : ∀ (x1 : Int32) (x2 : Int64) (x4 : Int32) (σ : tn_M), tf [(2, 1), (3, 8), (3, 9), (3, 10), (3, 11), (3, 12), (19, 999), (20, 999), (21, 999), (22, 999), (24, 999), (25, 999)] σ (c7 x1 x2 x4 σ)) (x4 : Int32) (x5 : Int64) (σ : tn_M) : tf [(2, 1), (3, 8), (3, 9), (3, 10), (3, 11), (3, 12), (19, 999), (20, 999), (21, 999), (22, 999), (24, 999), (25, 999)] σ (F_X4_bestCapNow_43 c7 x4 x5 σ) := by
  unfold F_X4_bestCapNow_43
  exact tf_to tn_fr.rf (tf_mo (by decide) (hc7 _ _ _ _))
set_option maxRecDepth 20000 in
theorem fr_X4_bestCapNow_7  : ∀ (n : Nat) (x1 : Int32) (x2 : Int64) (x4 : Int32) (σ : tn_M), tf [(2, 1), (3, 8), (3, 9), (3, 10), (3, 11), (3, 12), (19, 999), (20, 999), (21, 999), (22, 999), (24, 999), (25, 999)] σ (F_X4_bestCapNow_7 n x1 x2 x4 σ) := by
  intro n
  induction n with
  | zero => intros; exact tf_none
  | succ tn_n ih =>
    intro x1 x2 x4 σ
    rw [F_X4_bestCapNow_7]
    refine tf_ite ?_ ?_
    · exact tf_some tn_fr.rf
    · refine tf_bd (by decide) (fr_X4_restsUnder _ _) tn_fr.rf (fun r2 σ1 hσ1 => ?_)
      refine tf_ite ?_ ?_
      · exact tf_to hσ1 (ih _ _ _ _)
      · refine tf_bd (by decide) (fr_X0_together _) hσ1 (fun r4 σ3 hσ3 => ?_)
        refine tf_ite ?_ ?_
        · exact tf_to hσ3 (tf_mo (by decide) (fr_X4_bestCapNow_43 _ (fun _ _ _ _ => ih _ _ _ _) _ _ _))
        · refine tf_ite ?_ ?_
          · exact tf_to hσ3 (ih _ _ _ _)
          · exact tf_to hσ3 (tf_mo (by decide) (fr_X4_bestCapNow_43 _ (fun _ _ _ _ => ih _ _ _ _) _ _ _))
set_option maxRecDepth 20000 in
theorem fr_X4_bestCapNow   (σ : tn_M) : tf [(2, 1), (3, 8), (3, 9), (3, 10), (3, 11), (3, 12), (19, 999), (20, 999), (21, 999), (22, 999), (24, 999), (25, 999)] σ (f_X4_bestCapNow σ) := by
  unfold f_X4_bestCapNow
  exact tf_to tn_fr.rf (tf_mo (by decide) (fr_X4_bestCapNow_7 _ _ _ _ _))
set_option maxRecDepth 20000 in
theorem fr_X4_bestCap_41   (σ : tn_M) : tf [] σ (F_X4_bestCap_41 σ) := by
  unfold F_X4_bestCap_41
  refine tf_bd (by decide) (fr_X4_refused _ _) tn_fr.rf (fun r2 σ1 hσ1 => ?_)
  exact tf_some hσ1
set_option maxRecDepth 20000 in
theorem fr_X4_bestCap_9   (σ : tn_M) : tf [] σ (F_X4_bestCap_9 σ) := by
  unfold F_X4_bestCap_9
  refine tf_bd (by decide) (fr_X4_refused _ _) tn_fr.rf (fun r2 σ1 hσ1 => ?_)
  exact tf_some hσ1
set_option maxRecDepth 20000 in
theorem fr_X4_bestCap  (a1 : Int32) (σ : tn_M) : tf [(2, 1), (3, 8), (3, 9), (3, 10), (3, 11), (3, 12), (19, 999), (20, 999), (21, 999), (22, 999), (24, 999), (25, 999)] σ (f_X4_bestCap a1 σ) := by
  unfold f_X4_bestCap
  refine tf_ite ?_ ?_
  · exact tf_to tn_fr.rf (tf_mo (by decide) (fr_X4_bestCap_9 _))
  · refine tf_ite ?_ ?_
    · refine tf_bd (by decide) (fr_X4_bestCapNow _) tn_fr.rf (fun r2 σ1 hσ1 => ?_)
      refine tf_ite ?_ ?_
      · exact tf_some hσ1
      · refine tf_ite ?_ ?_
        · exact tf_to hσ1 (tf_mo (by decide) (fr_X4_bestCap_41 _))
        · refine tf_bd (by decide) (fr_X4_restsUnder _ _) hσ1 (fun r4 σ3 hσ3 => ?_)
          refine tf_ite ?_ ?_
          · exact tf_to hσ3 (tf_mo (by decide) (fr_X4_bestCap_41 _))
          · refine tf_bd (by decide) (fr_X0_together _) hσ3 (fun r6 σ5 hσ5 => ?_)
            refine tf_bd (by decide) (fr_X4_fraction _ _ _) hσ5 (fun r8 σ7 hσ7 => ?_)
            exact tf_some hσ7
    · exact tf_to tn_fr.rf (tf_mo (by decide) (fr_X4_bestCap_9 _))
set_option maxRecDepth 20000 in
theorem fr_X0_shuttingPrice_10  : ∀ (n : Nat) (x1 : Int32) (x2 : Int64) (x4 : Int32) (σ : tn_M), tf [] σ (F_X0_shuttingPrice_10 n x1 x2 x4 σ) := by
  intro n
  induction n with
  | zero => intros; exact tf_none
  | succ tn_n ih =>
    intro x1 x2 x4 σ
    rw [F_X0_shuttingPrice_10]
    refine tf_ite ?_ ?_
    · exact tf_some tn_fr.rf
    · refine tf_ck (fun hk1 => ?_)
      refine tf_lt (fun w1 => ?_)
      refine tf_ck (fun hk2 => ?_)
      refine tf_bd (by decide) (fr_X4_ceiling _ _ _) tn_fr.rf (fun r3 σ2 hσ2 => ?_)
      refine tf_lt (fun w4 => ?_)
      exact tf_to hσ2 (ih _ _ _ _)
set_option maxRecDepth 20000 in
theorem fr_X0_shuttingPrice  (a1 : Int32) (σ : tn_M) : tf [(25, 999)] σ (f_X0_shuttingPrice a1 σ) := by
  unfold f_X0_shuttingPrice
  refine tf_bd (by decide) (fr_X0_weigh _ _) tn_fr.rf (fun _ σ1 hσ1 => ?_)
  exact tf_to hσ1 (tf_mo (by decide) (fr_X0_shuttingPrice_10 _ _ _ _ _))
set_option maxRecDepth 20000 in
theorem fr_X4_edge  (a1 : Int32) (σ : tn_M) : tf [(2, 1), (3, 8), (3, 9), (3, 10), (3, 11), (3, 12), (19, 999), (20, 999), (21, 999), (22, 999), (24, 999), (25, 999)] σ (f_X4_edge a1 σ) := by
  unfold f_X4_edge
  refine tf_bd (by decide) (fr_X4_noShop _ _) tn_fr.rf (fun r2 σ1 hσ1 => ?_)
  refine tf_ite ?_ ?_
  · refine tf_bd (by decide) (fr_X4_sceneNow _) hσ1 (fun _ σ3 hσ3 => ?_)
    refine tf_bd (by decide) (fr_X0_shuttingPrice _ _) hσ3 (fun r5 σ4 hσ4 => ?_)
    refine tf_lt (fun v6 => ?_)
    exact tf_some hσ4
  · exact tf_some hσ1
set_option maxRecDepth 20000 in
theorem fr_X4_always_15   (σ : tn_M) : tf [] σ (F_X4_always_15 σ) := by
  unfold F_X4_always_15
  refine tf_bd (by decide) (fr_X4_refused _ _) tn_fr.rf (fun r2 σ1 hσ1 => ?_)
  exact tf_some hσ1
set_option maxRecDepth 20000 in
theorem fr_X4_always  (a1 : Int32) (a2 : Int32) (σ : tn_M) : tf [(2, 1), (3, 8), (3, 9), (3, 10), (3, 11), (3, 12), (19, 999), (20, 999), (21, 999), (22, 999), (24, 999), (25, 999)] σ (f_X4_always a1 a2 σ) := by
  unfold f_X4_always
  refine tf_bd (by decide) (fr_X4_noShop _ _) tn_fr.rf (fun r2 σ1 hσ1 => ?_)
  refine tf_ite ?_ ?_
  · refine tf_bd (by decide) (fr_X4_noSide _ _) hσ1 (fun r4 σ3 hσ3 => ?_)
    refine tf_ite ?_ ?_
    · refine tf_bd (by decide) (fr_X4_sceneNow _) hσ3 (fun _ σ5 hσ5 => ?_)
      refine tf_bd (by decide) (fr_X0_become _ _ _) hσ5 (fun _ σ6 hσ6 => ?_)
      refine tf_m (tn_fr.si rfl hσ6) (fun σ7 hσ7 => ?_)
      refine tf_bd (by decide) (fr_X0_runDown _) hσ7 (fun r9 σ8 hσ8 => ?_)
      refine tf_ite ?_ ?_
      · refine tf_bd (by decide) (fr_X4_refused _ _) hσ8 (fun r22 σ21 hσ21 => ?_)
        exact tf_some hσ21
      · refine tf_bd (by decide) (fr_X0_earning _ _) hσ8 (fun r11 σ10 hσ10 => ?_)
        refine tf_bd (by decide) (fr_X4_sceneNow _) hσ10 (fun _ σ12 hσ12 => ?_)
        refine tf_bd (by decide) (fr_X0_runDown _) hσ12 (fun r14 σ13 hσ13 => ?_)
        refine tf_ite ?_ ?_
        · refine tf_bd (by decide) (fr_X4_refused _ _) hσ13 (fun r20 σ19 hσ19 => ?_)
          exact tf_some hσ19
        · refine tf_bd (by decide) (fr_X0_earning _ _) hσ13 (fun r16 σ15 hσ15 => ?_)
          refine tf_bd (by decide) (fr_X4_fraction _ _ _) hσ15 (fun r18 σ17 hσ17 => ?_)
          exact tf_some hσ17
    · exact tf_to hσ3 (tf_mo (by decide) (fr_X4_always_15 _))
  · exact tf_to hσ1 (tf_mo (by decide) (fr_X4_always_15 _))
set_option maxRecDepth 20000 in
theorem fr_X4_turn  (a1 : Int32) (a2 : Int32) (σ : tn_M) : tf [(8, 999)] σ (f_X4_turn a1 a2 σ) := by
  unfold f_X4_turn
  refine tf_ite ?_ ?_
  · exact tf_some tn_fr.rf
  · refine tf_ite ?_ ?_
    · exact tf_some tn_fr.rf
    · refine tf_ite ?_ ?_
      · exact tf_some tn_fr.rf
      · refine tf_ite ?_ ?_
        · refine tf_ck (fun hk1 => ?_)
          refine tf_lt (fun w1 => ?_)
          refine tf_ck (fun hk2 => ?_)
          refine tf_m (tn_fr.si (by rfl) tn_fr.rf) (fun σ2 hσ2 => ?_)
          exact tf_some hσ2
        · exact tf_some tn_fr.rf
set_option maxRecDepth 20000 in
theorem fr_X4_keeps_47  (x1 : Int32) (x3 : Int32) (x4 : Int32) (σ : tn_M) : tf [] σ (F_X4_keeps_47 x1 x3 x4 σ) := by
  unfold F_X4_keeps_47
  refine tf_lt (fun v1 => ?_)
  exact tf_some tn_fr.rf
set_option maxRecDepth 20000 in
theorem fr_X4_keeps_19  : ∀ (n : Nat) (x1 : Int32) (x3 : Int32) (σ : tn_M), tf [(20, 999), (24, 999), (25, 999)] σ (F_X4_keeps_19 n x1 x3 σ) := by
  intro n
  induction n with
  | zero => intros; exact tf_none
  | succ tn_n ih =>
    intro x1 x3 σ
    rw [F_X4_keeps_19]
    refine tf_ite ?_ ?_
    · exact tf_some tn_fr.rf
    · refine tf_ck (fun hk1 => ?_)
      refine tf_bd (by decide) (fr_X0_openTillNine _ _) tn_fr.rf (fun _ σ1 hσ1 => ?_)
      refine tf_bd (by decide) (fr_X0_firstGainer _) hσ1 (fun r3 σ2 hσ2 => ?_)
      refine tf_ite ?_ ?_
      · exact tf_to hσ2 (ih _ _ _)
      · exact tf_to hσ2 (tf_mo (by decide) (fr_X4_keeps_47 _ _ _ _))
set_option maxRecDepth 20000 in
theorem fr_X4_keeps  (a1 : Int32) (σ : tn_M) : tf [(2, 1), (3, 8), (3, 9), (3, 10), (3, 11), (3, 12), (19, 999), (20, 999), (21, 999), (22, 999), (24, 999), (25, 999)] σ (f_X4_keeps a1 σ) := by
  unfold f_X4_keeps
  refine tf_ite ?_ ?_
  · exact tf_some tn_fr.rf
  · refine tf_ite ?_ ?_
    · refine tf_bd (by decide) (fr_X4_sceneNow _) tn_fr.rf (fun _ σ1 hσ1 => ?_)
      exact tf_to hσ1 (tf_mo (by decide) (fr_X4_keeps_19 _ _ _ _))
    · exact tf_some tn_fr.rf
set_option maxRecDepth 20000 in
theorem fr_X4_week_66  (x2 : Int32) (x4 : Int64) (σ : tn_M) : tf [] σ (F_X4_week_66 x2 x4 σ) := by
  unfold F_X4_week_66
  refine tf_bd (by decide) (fr_X4_fraction _ _ _) tn_fr.rf (fun r2 σ1 hσ1 => ?_)
  exact tf_some hσ1
set_option maxRecDepth 20000 in
theorem fr_X4_week_32  : ∀ (n : Nat) (x1 : Int32) (x2 : Int32) (x4 : Int64) (x6 : Int32) (σ : tn_M), tf [(20, 999), (24, 999)] σ (F_X4_week_32 n x1 x2 x4 x6 σ) := by
  intro n
  induction n with
  | zero => intros; exact tf_none
  | succ tn_n ih =>
    intro x1 x2 x4 x6 σ
    rw [F_X4_week_32]
    refine tf_ite ?_ ?_
    · exact tf_to tn_fr.rf (tf_mo (by decide) (fr_X4_week_66 _ _ _))
    · refine tf_ck (fun hk1 => ?_)
      refine tf_bd (by decide) (fr_X0_openTillNine _ _) tn_fr.rf (fun _ σ1 hσ1 => ?_)
      refine tf_bd (by decide) (fr_X0_earning _ _) hσ1 (fun r3 σ2 hσ2 => ?_)
      exact tf_to hσ2 (ih _ _ _ _ _)
set_option maxRecDepth 20000 in
theorem fr_X4_week_15   (σ : tn_M) : tf [] σ (F_X4_week_15 σ) := by
  unfold F_X4_week_15
  refine tf_bd (by decide) (fr_X4_refused _ _) tn_fr.rf (fun r2 σ1 hσ1 => ?_)
  exact tf_some hσ1
set_option maxRecDepth 20000 in
theorem fr_X4_week  (a1 : Int32) (a2 : Int32) (σ : tn_M) : tf [(2, 1), (3, 8), (3, 9), (3, 10), (3, 11), (3, 12), (19, 999), (20, 999), (21, 999), (22, 999), (24, 999)] σ (f_X4_week a1 a2 σ) := by
  unfold f_X4_week
  refine tf_bd (by decide) (fr_X4_noShop _ _) tn_fr.rf (fun r2 σ1 hσ1 => ?_)
  refine tf_ite ?_ ?_
  · refine tf_bd (by decide) (fr_X4_noSide _ _) hσ1 (fun r4 σ3 hσ3 => ?_)
    refine tf_ite ?_ ?_
    · refine tf_bd (by decide) (fr_X4_sceneNow _) hσ3 (fun _ σ5 hσ5 => ?_)
      exact tf_to hσ5 (tf_mo (by decide) (fr_X4_week_32 _ _ _ _ _ _))
    · exact tf_to hσ3 (tf_mo (by decide) (fr_X4_week_15 _))
  · exact tf_to hσ1 (tf_mo (by decide) (fr_X4_week_15 _))
set_option maxRecDepth 20000 in
theorem fr_X0_remember   (σ : tn_M) : tf [(23, 999)] σ (f_X0_remember σ) := by
  unfold f_X0_remember
  refine tf_cck ?_
  refine tf_m (tn_fr.cp (fun _ => rfl) tn_fr.rf) (fun σ1 hσ1 => ?_)
  exact tf_some hσ1
set_option maxRecDepth 20000 in
theorem fr_X0_recall_2  : ∀ (n : Nat) (x1 : Int32) (σ : tn_M), tf [(20, 999), (24, 999)] σ (F_X0_recall_2 n x1 σ) := by
  intro n
  induction n with
  | zero => intros; exact tf_none
  | succ tn_n ih =>
    intro x1 σ
    rw [F_X0_recall_2]
    refine tf_ite ?_ ?_
    · exact tf_some tn_fr.rf
    · refine tf_ck (fun hk1 => ?_)
      refine tf_bd (by decide) (fr_X0_become _ _ _) tn_fr.rf (fun _ σ1 hσ1 => ?_)
      exact tf_to hσ1 (ih _ _)
set_option maxRecDepth 20000 in
theorem fr_X0_recall   (σ : tn_M) : tf [(20, 999), (24, 999)] σ (f_X0_recall σ) := by
  unfold f_X0_recall
  exact tf_to tn_fr.rf (tf_mo (by decide) (fr_X0_recall_2 _ _ _))
set_option maxRecDepth 20000 in
theorem fr_X0_passWeek_64 (c17 : Int32 → tn_M → Option (Unit × tn_M)) (hc17 : ∀ (x1 : Int32) (σ : tn_M), tf [(22, 999)] σ (c17 x1 σ)) (x1 : Int32) (y1 : Int32) (y2 : Int32) (σ : tn_M) : tf [(22, 999)] σ (F_X0_passWeek_64 c17 x1 y1 y2 σ) := by
  unfold F_X0_passWeek_64
  refine tf_ck (fun hk1 => ?_)
  refine tf_m (tn_fr.si (by rfl) tn_fr.rf) (fun σ1 hσ1 => ?_)
  exact tf_to hσ1 (tf_mo (by decide) (hc17 _ _))
set_option maxRecDepth 20000 in
theorem fr_X0_passWeek_17  : ∀ (n : Nat) (x1 : Int32) (σ : tn_M), tf [(22, 999)] σ (F_X0_passWeek_17 n x1 σ) := by
  intro n
  induction n with
  | zero => intros; exact tf_none
  | succ tn_n ih =>
    intro x1 σ
    rw [F_X0_passWeek_17]
    refine tf_ite ?_ ?_
    · exact tf_some tn_fr.rf
    · refine tf_ck (fun hk1 => ?_)
      refine tf_ite ?_ ?_
      · refine tf_ck (fun hk2 => ?_)
        exact tf_to tn_fr.rf (tf_mo (by decide) (fr_X0_passWeek_64 _ (fun _ _ => ih _ _) _ _ _ _))
      · refine tf_ck (fun hk3 => ?_)
        exact tf_to tn_fr.rf (tf_mo (by decide) (fr_X0_passWeek_64 _ (fun _ _ => ih _ _) _ _ _ _))
set_option maxRecDepth 20000 in
theorem fr_X0_passWeek_15   (σ : tn_M) : tf [(22, 999)] σ (F_X0_passWeek_15 σ) := by
  unfold F_X0_passWeek_15
  exact tf_to tn_fr.rf (tf_mo (by decide) (fr_X0_passWeek_17 _ _ _))
set_option maxRecDepth 20000 in
theorem fr_X0_passWeek   (σ : tn_M) : tf [(3, 12), (20, 999), (22, 999), (23, 999), (24, 999), (25, 999)] σ (f_X0_passWeek σ) := by
  unfold f_X0_passWeek
  refine tf_bd (by decide) (fr_X0_remember _) tn_fr.rf (fun _ σ1 hσ1 => ?_)
  refine tf_bd (by decide) (fr_X0_runDown _) hσ1 (fun r3 σ2 hσ2 => ?_)
  refine tf_ite ?_ ?_
  · refine tf_bd (by decide) (fr_X0_recall _) hσ2 (fun _ σ4 hσ4 => ?_)
    exact tf_to hσ4 (tf_mo (by decide) (fr_X0_passWeek_15 _))
  · exact tf_to hσ2 (tf_mo (by decide) (fr_X0_passWeek_15 _))
set_option maxRecDepth 20000 in
theorem fr_X4_sceneAfter_7  : ∀ (n : Nat) (x1 : Int32) (x3 : Int32) (σ : tn_M), tf [(3, 12), (20, 999), (22, 999), (23, 999), (24, 999), (25, 999)] σ (F_X4_sceneAfter_7 n x1 x3 σ) := by
  intro n
  induction n with
  | zero => intros; exact tf_none
  | succ tn_n ih =>
    intro x1 x3 σ
    rw [F_X4_sceneAfter_7]
    refine tf_ite ?_ ?_
    · exact tf_some tn_fr.rf
    · refine tf_bd (by decide) (fr_X0_passWeek _) tn_fr.rf (fun _ σ1 hσ1 => ?_)
      exact tf_to hσ1 (ih _ _ _)
set_option maxRecDepth 20000 in
theorem fr_X4_sceneAfter  (a1 : Int32) (σ : tn_M) : tf [(2, 1), (3, 8), (3, 9), (3, 10), (3, 11), (3, 12), (19, 999), (20, 999), (21, 999), (22, 999), (23, 999), (24, 999), (25, 999)] σ (f_X4_sceneAfter a1 σ) := by
  unfold f_X4_sceneAfter
  refine tf_bd (by decide) (fr_X4_sceneNow _) tn_fr.rf (fun _ σ1 hσ1 => ?_)
  exact tf_to hσ1 (tf_mo (by decide) (fr_X4_sceneAfter_7 _ _ _ _))
set_option maxRecDepth 20000 in
theorem fr_X0_hourOrHabit  (a1 : Int32) (σ : tn_M) : tf [] σ (f_X0_hourOrHabit a1 σ) := by
  unfold f_X0_hourOrHabit
  refine tf_ite ?_ ?_
  · refine tf_ck (fun hk1 => ?_)
    exact tf_some tn_fr.rf
  · refine tf_ck (fun hk2 => ?_)
    exact tf_some tn_fr.rf
set_option maxRecDepth 20000 in
theorem fr_X4_weeks  (a1 : Int32) (a2 : Int32) (σ : tn_M) : tf [(2, 1), (3, 8), (3, 9), (3, 10), (3, 11), (3, 12), (19, 999), (20, 999), (21, 999), (22, 999), (23, 999), (24, 999), (25, 999)] σ (f_X4_weeks a1 a2 σ) := by
  unfold f_X4_weeks
  refine tf_ite ?_ ?_
  · exact tf_some tn_fr.rf
  · refine tf_ite ?_ ?_
    · exact tf_some tn_fr.rf
    · refine tf_ite ?_ ?_
      · exact tf_some tn_fr.rf
      · refine tf_ite ?_ ?_
        · refine tf_bd (by decide) (fr_X4_sceneAfter _ _) tn_fr.rf (fun _ σ1 hσ1 => ?_)
          refine tf_bd (by decide) (fr_X0_hourOrHabit _ _) hσ1 (fun r3 σ2 hσ2 => ?_)
          exact tf_some hσ2
        · exact tf_some tn_fr.rf
set_option maxRecDepth 20000 in
theorem fr_X0_earlyIsStill   (σ : tn_M) : tf [(20, 999), (23, 999), (24, 999), (25, 999)] σ (f_X0_earlyIsStill σ) := by
  unfold f_X0_earlyIsStill
  refine tf_bd (by decide) (fr_X0_remember _) tn_fr.rf (fun _ σ1 hσ1 => ?_)
  refine tf_bd (by decide) (fr_X0_openTillNine _ _) hσ1 (fun _ σ2 hσ2 => ?_)
  refine tf_bd (by decide) (fr_X0_firstGainer _) hσ2 (fun r4 σ3 hσ3 => ?_)
  refine tf_lt (fun v5 => ?_)
  refine tf_bd (by decide) (fr_X0_recall _) hσ3 (fun _ σ6 hσ6 => ?_)
  exact tf_zr hσ6
set_option maxRecDepth 20000 in
theorem fr_X4_back_7  : ∀ (n : Nat) (x2 : Int32) (σ : tn_M), tf [(3, 12), (20, 999), (22, 999), (23, 999), (24, 999), (25, 999)] σ (F_X4_back_7 n x2 σ) := by
  intro n
  induction n with
  | zero => intros; exact tf_none
  | succ tn_n ih =>
    intro x2 σ
    rw [F_X4_back_7]
    refine tf_ite ?_ ?_
    · exact tf_some tn_fr.rf
    · refine tf_bd (by decide) (fr_X0_earlyIsStill _) tn_fr.rf (fun r2 σ1 hσ1 => ?_)
      refine tf_ite ?_ ?_
      · exact tf_some hσ1
      · refine tf_bd (by decide) (fr_X0_passWeek _) hσ1 (fun _ σ3 hσ3 => ?_)
        exact tf_to hσ3 (ih _ _)
set_option maxRecDepth 20000 in
theorem fr_X4_back   (σ : tn_M) : tf [(2, 1), (3, 8), (3, 9), (3, 10), (3, 11), (3, 12), (19, 999), (20, 999), (21, 999), (22, 999), (23, 999), (24, 999), (25, 999)] σ (f_X4_back σ) := by
  unfold f_X4_back
  refine tf_bd (by decide) (fr_X4_sceneNow _) tn_fr.rf (fun _ σ1 hσ1 => ?_)
  exact tf_to hσ1 (tf_mo (by decide) (fr_X4_back_7 _ _ _))
set_option maxRecDepth 20000 in
theorem fr_X1_noForm  (a0 : Int32) (σ : tn_M) : tf [] σ (f_X1_noForm a0 σ) := by
  unfold f_X1_noForm
  refine tf_ite ?_ ?_
  · exact tf_some tn_fr.rf
  · refine tf_ite ?_ ?_
    · exact tf_some tn_fr.rf
    · exact tf_some tn_fr.rf
set_option maxRecDepth 20000 in
theorem fr_X1_renew  (a1 : Int32) (a2 : Int32) (a3 : Int32) (σ : tn_M) : tf [(26, 999), (27, 999), (29, 999), (30, 999), (31, 999), (32, 999)] σ (f_X1_renew a1 a2 a3 σ) := by
  unfold f_X1_renew
  refine tf_ck (fun hk1 => ?_)
  refine tf_m (tn_fr.si (by rfl) tn_fr.rf) (fun σ1 hσ1 => ?_)
  refine tf_ck (fun hk2 => ?_)
  refine tf_m (tn_fr.si (by rfl) hσ1) (fun σ2 hσ2 => ?_)
  refine tf_ck (fun hk3 => ?_)
  refine tf_bd (tn_sub4 (by decide) hk3) (fr_J7_fill_53178 _ _ _) hσ2 (fun _ σ4 hσ4 => ?_)
  exact tf_some hσ4
set_option maxRecDepth 20000 in
theorem fr_X4_sheet  (a1 : Int32) (a2 : Int32) (a3 : Int32) (σ : tn_M) : tf [(4, 3), (26, 999), (27, 999), (29, 999), (30, 999), (31, 999), (32, 999)] σ (f_X4_sheet a1 a2 a3 σ) := by
  unfold f_X4_sheet
  refine tf_bd (by decide) (fr_X1_noSheet _ _) tn_fr.rf (fun r2 σ1 hσ1 => ?_)
  refine tf_ite ?_ ?_
  · refine tf_bd (by decide) (fr_X1_noForm _ _) hσ1 (fun r4 σ3 hσ3 => ?_)
    refine tf_ite ?_ ?_
    · refine tf_ite ?_ ?_
      · refine tf_ite ?_ ?_
        · refine tf_bd (by decide) (fr_X1_renew _ _ _ _) hσ3 (fun _ σ5 hσ5 => ?_)
          exact tf_some hσ5
        · refine tf_bd (by decide) (fr_X1_finding _ _) hσ3 (fun r7 σ6 hσ6 => ?_)
          exact tf_some hσ6
      · exact tf_some hσ3
    · exact tf_some hσ3
  · exact tf_some hσ1
set_option maxRecDepth 20000 in
theorem fr_X4_lose  (a1 : Int32) (σ : tn_M) : tf [(4, 3), (26, 999)] σ (f_X4_lose a1 σ) := by
  unfold f_X4_lose
  refine tf_bd (by decide) (fr_X1_refusal _ _) tn_fr.rf (fun r2 σ1 hσ1 => ?_)
  refine tf_ite ?_ ?_
  · refine tf_ck (fun hk1 => ?_)
    refine tf_m (tn_fr.si (by rfl) hσ1) (fun σ3 hσ3 => ?_)
    refine tf_ck (fun hk2 => ?_)
    exact tf_some hσ3
  · exact tf_some hσ1
set_option maxRecDepth 20000 in
theorem fr_X1_refusalOfItem_63   (σ : tn_M) : tf [(4, 3)] σ (F_X1_refusalOfItem_63 σ) := by
  unfold F_X1_refusalOfItem_63
  refine tf_bd (by decide) (fr_X1_finding _ _) tn_fr.rf (fun r2 σ1 hσ1 => ?_)
  exact tf_some hσ1
set_option maxRecDepth 20000 in
theorem fr_X1_refusalOfItem  (a1 : Int32) (a2 : Int32) (a3 : Int32) (σ : tn_M) : tf [(4, 3)] σ (f_X1_refusalOfItem a1 a2 a3 σ) := by
  unfold f_X1_refusalOfItem
  refine tf_bd (by decide) (fr_X1_noSheet _ _) tn_fr.rf (fun r2 σ1 hσ1 => ?_)
  refine tf_ite ?_ ?_
  · refine tf_bd (by decide) (fr_X1_noForm _ _) hσ1 (fun r4 σ3 hσ3 => ?_)
    refine tf_ite ?_ ?_
    · refine tf_ck (fun hk1 => ?_)
      refine tf_ite ?_ ?_
      · refine tf_bd (by decide) (fr_X1_finding _ _) hσ3 (fun r8 σ7 hσ7 => ?_)
        exact tf_some hσ7
      · refine tf_ck (fun hk2 => ?_)
        refine tf_ite ?_ ?_
        · refine tf_ite ?_ ?_
          · exact tf_to hσ3 (tf_mo (by decide) (fr_X1_refusalOfItem_63 _))
          · refine tf_ck (fun hk3 => ?_)
            refine tf_ite ?_ ?_
            · exact tf_some hσ3
            · exact tf_to hσ3 (tf_mo (by decide) (fr_X1_refusalOfItem_63 _))
        · refine tf_bd (by decide) (fr_X1_finding _ _) hσ3 (fun r6 σ5 hσ5 => ?_)
          exact tf_some hσ5
    · exact tf_some hσ3
  · exact tf_some hσ1
set_option maxRecDepth 20000 in
theorem fr_X1_put  (a1 : Int32) (a2 : Int32) (a3 : Int32) (σ : tn_M) : tf [(29, 999), (30, 999), (31, 999), (32, 999)] σ (f_X1_put a1 a2 a3 σ) := by
  unfold f_X1_put
  refine tf_ck (fun hk1 => ?_)
  refine tf_ite ?_ ?_
  · refine tf_ck (fun hk2 => ?_)
    refine tf_ck (fun hk3 => ?_)
    refine tf_m (tn_fr.si (tn_row4 (by decide) hk2) tn_fr.rf) (fun σ6 hσ6 => ?_)
    exact tf_some hσ6
  · refine tf_ck (fun hk4 => ?_)
    refine tf_ite ?_ ?_
    · refine tf_ck (fun hk5 => ?_)
      refine tf_ck (fun hk6 => ?_)
      refine tf_m (tn_fr.si (tn_row4 (by decide) hk5) tn_fr.rf) (fun σ4 hσ4 => ?_)
      exact tf_some hσ4
    · refine tf_ck (fun hk7 => ?_)
      refine tf_ck (fun hk8 => ?_)
      refine tf_m (tn_fr.si (tn_row4 (by decide) hk7) tn_fr.rf) (fun σ2 hσ2 => ?_)
      exact tf_some hσ2
set_option maxRecDepth 20000 in
theorem fr_X4_lay  (a1 : Int32) (a2 : Int32) (a3 : Int32) (a4 : Int32) (σ : tn_M) : tf [(4, 3), (29, 999), (30, 999), (31, 999), (32, 999)] σ (f_X4_lay a1 a2 a3 a4 σ) := by
  unfold f_X4_lay
  refine tf_bd (by decide) (fr_X1_refusalOfItem _ _ _ _) tn_fr.rf (fun r2 σ1 hσ1 => ?_)
  refine tf_ite ?_ ?_
  · refine tf_bd (by decide) (fr_X1_put _ _ _ _) hσ1 (fun _ σ3 hσ3 => ?_)
    exact tf_some hσ3
  · exact tf_some hσ1
set_option maxRecDepth 20000 in
theorem fr_X4_get  (a1 : Int32) (a2 : Int32) (a3 : Int32) (σ : tn_M) : tf [(4, 3)] σ (f_X4_get a1 a2 a3 σ) := by
  unfold f_X4_get
  refine tf_bd (by decide) (fr_X1_refusalOfItem _ _ _ _) tn_fr.rf (fun r2 σ1 hσ1 => ?_)
  refine tf_ite ?_ ?_
  · refine tf_ck (fun hk1 => ?_)
    refine tf_ck (fun hk2 => ?_)
    exact tf_some hσ1
  · exact tf_some hσ1
set_option maxRecDepth 20000 in
theorem fr_X1_lacks  (a1 : Int32) (a2 : Int32) (a3 : Int32) (σ : tn_M) : tf [] σ (f_X1_lacks a1 a2 a3 σ) := by
  unfold f_X1_lacks
  refine tf_ite ?_ ?_
  · exact tf_some tn_fr.rf
  · refine tf_ite ?_ ?_
    · exact tf_some tn_fr.rf
    · refine tf_ck (fun hk1 => ?_)
      refine tf_ite ?_ ?_
      · exact tf_some tn_fr.rf
      · exact tf_some tn_fr.rf
set_option maxRecDepth 20000 in
theorem fr_X4_copy_111   (σ : tn_M) : tf [(4, 3)] σ (F_X4_copy_111 σ) := by
  unfold F_X4_copy_111
  refine tf_bd (by decide) (fr_X1_finding _ _) tn_fr.rf (fun r2 σ1 hσ1 => ?_)
  exact tf_some hσ1
set_option maxRecDepth 20000 in
theorem fr_X4_copy_43   (σ : tn_M) : tf [(4, 3)] σ (F_X4_copy_43 σ) := by
  unfold F_X4_copy_43
  refine tf_bd (by decide) (fr_X1_finding _ _) tn_fr.rf (fun r2 σ1 hσ1 => ?_)
  exact tf_some hσ1
set_option maxRecDepth 20000 in
theorem fr_X4_copy  (a1 : Int32) (a2 : Int32) (a3 : Int32) (a4 : Int32) (a5 : Int32) (σ : tn_M) : tf [(4, 3), (29, 999), (30, 999), (31, 999), (32, 999)] σ (f_X4_copy a1 a2 a3 a4 a5 σ) := by
  unfold f_X4_copy
  refine tf_bd (by decide) (fr_X1_noSheet _ _) tn_fr.rf (fun r2 σ1 hσ1 => ?_)
  refine tf_ite ?_ ?_
  · refine tf_bd (by decide) (fr_X1_noSheet _ _) hσ1 (fun r4 σ3 hσ3 => ?_)
    refine tf_ite ?_ ?_
    · refine tf_ck (fun hk1 => ?_)
      refine tf_ite ?_ ?_
      · exact tf_to hσ3 (tf_mo (by decide) (fr_X4_copy_43 _))
      · refine tf_ck (fun hk2 => ?_)
        refine tf_ite ?_ ?_
        · exact tf_to hσ3 (tf_mo (by decide) (fr_X4_copy_43 _))
        · refine tf_ck (fun hk3 => ?_)
          refine tf_ck (fun hk4 => ?_)
          refine tf_ite ?_ ?_
          · refine tf_bd (by decide) (fr_X1_lacks _ _ _ _) hσ3 (fun r6 σ5 hσ5 => ?_)
            refine tf_ite ?_ ?_
            · refine tf_bd (by decide) (fr_X1_lacks _ _ _ _) hσ5 (fun r8 σ7 hσ7 => ?_)
              refine tf_ite ?_ ?_
              · refine tf_ck (fun hk5 => ?_)
                refine tf_ck (fun hk6 => ?_)
                refine tf_cck ?_
                refine tf_m (tn_fr.cp (fun _ => tn_row4 (by decide) hk6) hσ7) (fun σ11 hσ11 => ?_)
                exact tf_some hσ11
              · exact tf_to hσ7 (tf_mo (by decide) (fr_X4_copy_111 _))
            · exact tf_to hσ5 (tf_mo (by decide) (fr_X4_copy_111 _))
          · refine tf_bd (by decide) (fr_X1_finding _ _) hσ3 (fun r13 σ12 hσ12 => ?_)
            exact tf_some hσ12
    · exact tf_some hσ3
  · exact tf_some hσ1
set_option maxRecDepth 20000 in
theorem fr_X4_write_44  : ∀ (n : Nat) (x1 : Int32) (x4 : Int32) (x5 : Int32) (σ : tn_M), tf [(25, 999), (29, 999), (30, 999), (31, 999), (32, 999)] σ (F_X4_write_44 n x1 x4 x5 σ) := by
  intro n
  induction n with
  | zero => intros; exact tf_none
  | succ tn_n ih =>
    intro x1 x4 x5 σ
    rw [F_X4_write_44]
    refine tf_ite ?_ ?_
    · exact tf_some tn_fr.rf
    · refine tf_bd (by decide) (fr_X0_reply _ _) tn_fr.rf (fun r2 σ1 hσ1 => ?_)
      refine tf_bd (by decide) (fr_X1_put _ _ _ _) hσ1 (fun _ σ3 hσ3 => ?_)
      exact tf_to hσ3 (ih _ _ _ _)
set_option maxRecDepth 20000 in
theorem fr_X4_write  (a1 : Int32) (σ : tn_M) : tf [(2, 1), (3, 8), (3, 9), (3, 10), (3, 11), (3, 12), (4, 3), (19, 999), (20, 999), (21, 999), (22, 999), (24, 999), (25, 999), (29, 999), (30, 999), (31, 999), (32, 999)] σ (f_X4_write a1 σ) := by
  unfold f_X4_write
  refine tf_bd (by decide) (fr_X1_refusal _ _) tn_fr.rf (fun r2 σ1 hσ1 => ?_)
  refine tf_ite ?_ ?_
  · refine tf_bd (by decide) (fr_X4_sceneNow _) hσ1 (fun _ σ3 hσ3 => ?_)
    refine tf_ck (fun hk1 => ?_)
    refine tf_lt (fun w4 => ?_)
    exact tf_to hσ3 (tf_mo (by decide) (fr_X4_write_44 _ _ _ _ _))
  · exact tf_some hσ1
set_option maxRecDepth 20000 in
theorem fr_X4_sum_5  : ∀ (n : Nat) (k0 : Nat) (x2 : Int32) (x3 : Int32) (x4 : Int32) (σ : tn_M), tf [] σ (F_X4_sum_5 n k0 x2 x3 x4 σ) := by
  intro n
  induction n with
  | zero => intros; exact tf_none
  | succ tn_n ih =>
    intro k0 x2 x3 x4 σ
    rw [F_X4_sum_5]
    refine tf_ite ?_ ?_
    · exact tf_some tn_fr.rf
    · refine tf_ite ?_ ?_
      · exact tf_some tn_fr.rf
      · refine tf_ck (fun hk1 => ?_)
        refine tf_lt (fun w1 => ?_)
        exact tf_to tn_fr.rf (ih _ _ _ _ _)
set_option maxRecDepth 20000 in
theorem fr_X4_sum  (k0 : Nat) (a1 : Int32) (a2 : Int32) (σ : tn_M) : tf [] σ (f_X4_sum k0 a1 a2 σ) := by
  unfold f_X4_sum
  exact tf_to tn_fr.rf (tf_mo (by decide) (fr_X4_sum_5 _ _ _ _ _ _))
set_option maxRecDepth 20000 in
theorem fr_X2_crowd_4  : ∀ (n : Nat) (x1 : Int32) (x2 : Int32) (σ : tn_M), tf [] σ (F_X2_crowd_4 n x1 x2 σ) := by
  intro n
  induction n with
  | zero => intros; exact tf_none
  | succ tn_n ih =>
    intro x1 x2 σ
    rw [F_X2_crowd_4]
    refine tf_ite ?_ ?_
    · exact tf_some tn_fr.rf
    · refine tf_ck (fun hk1 => ?_)
      refine tf_lt (fun w2 => ?_)
      exact tf_to tn_fr.rf (ih _ _ _)
set_option maxRecDepth 20000 in
theorem fr_X2_crowd   (σ : tn_M) : tf [] σ (f_X2_crowd σ) := by
  unfold f_X2_crowd
  exact tf_to tn_fr.rf (tf_mo (by decide) (fr_X2_crowd_4 _ _ _ _))
set_option maxRecDepth 20000 in
theorem fr_X4_count  (a1 : Int32) (σ : tn_M) : tf [] σ (f_X4_count a1 σ) := by
  unfold f_X4_count
  refine tf_ite ?_ ?_
  · exact tf_some tn_fr.rf
  · refine tf_ite ?_ ?_
    · exact tf_some tn_fr.rf
    · refine tf_ite ?_ ?_
      · exact tf_some tn_fr.rf
      · refine tf_ite ?_ ?_
        · refine tf_bd (by decide) (fr_X4_sum _ _ _ _) tn_fr.rf (fun r2 σ1 hσ1 => ?_)
          exact tf_some hσ1
        · refine tf_ite ?_ ?_
          · refine tf_bd (by decide) (fr_X4_sum _ _ _ _) tn_fr.rf (fun r4 σ3 hσ3 => ?_)
            exact tf_some hσ3
          · refine tf_ite ?_ ?_
            · refine tf_bd (by decide) (fr_X4_sum _ _ _ _) tn_fr.rf (fun r6 σ5 hσ5 => ?_)
              exact tf_some hσ5
            · refine tf_ite ?_ ?_
              · exact tf_some tn_fr.rf
              · refine tf_ite ?_ ?_
                · refine tf_bd (by decide) (fr_X2_crowd _) tn_fr.rf (fun r8 σ7 hσ7 => ?_)
                  exact tf_some hσ7
                · refine tf_ite ?_ ?_
                  · exact tf_some tn_fr.rf
                  · exact tf_some tn_fr.rf
set_option maxRecDepth 20000 in
theorem fr_X4_digest_314  (x1 : Int64) (σ : tn_M) : tf [(2, 1), (3, 8), (3, 9), (3, 10), (3, 11), (3, 12), (19, 999), (20, 999), (21, 999), (22, 999), (23, 999), (24, 999), (25, 999)] σ (F_X4_digest_314 x1 σ) := by
  unfold F_X4_digest_314
  refine tf_bd (by decide) (fr_X4_back _) tn_fr.rf (fun r2 σ1 hσ1 => ?_)
  exact tf_some hσ1
set_option maxRecDepth 20000 in
theorem fr_X4_digest_286  : ∀ (n : Nat) (x1 : Int64) (x6 : Int32) (σ : tn_M), tf [(2, 1), (3, 8), (3, 9), (3, 10), (3, 11), (3, 12), (19, 999), (20, 999), (21, 999), (22, 999), (23, 999), (24, 999), (25, 999)] σ (F_X4_digest_286 n x1 x6 σ) := by
  intro n
  induction n with
  | zero => intros; exact tf_none
  | succ tn_n ih =>
    intro x1 x6 σ
    rw [F_X4_digest_286]
    refine tf_ite ?_ ?_
    · exact tf_to tn_fr.rf (tf_mo (by decide) (fr_X4_digest_314 _ _))
    · refine tf_bd (by decide) (fr_X0_hourOrHabit _ _) tn_fr.rf (fun r2 σ1 hσ1 => ?_)
      refine tf_lt (fun w3 => ?_)
      exact tf_to hσ1 (ih _ _ _)
set_option maxRecDepth 20000 in
theorem fr_X4_digest_213  (x1 : Int64) (σ : tn_M) : tf [(2, 1), (3, 8), (3, 9), (3, 10), (3, 11), (3, 12), (19, 999), (20, 999), (21, 999), (22, 999), (23, 999), (24, 999), (25, 999)] σ (F_X4_digest_213 x1 σ) := by
  unfold F_X4_digest_213
  refine tf_bd (by decide) (fr_X4_rest _ _) tn_fr.rf (fun r2 σ1 hσ1 => ?_)
  refine tf_lt (fun w3 => ?_)
  refine tf_bd (by decide) (fr_X4_countStill _) hσ1 (fun r5 σ4 hσ4 => ?_)
  refine tf_lt (fun w6 => ?_)
  refine tf_bd (by decide) (fr_X4_leastFine _) hσ4 (fun r8 σ7 hσ7 => ?_)
  refine tf_lt (fun w9 => ?_)
  refine tf_bd (by decide) (fr_X4_keeps _ _) hσ7 (fun r11 σ10 hσ10 => ?_)
  refine tf_lt (fun w12 => ?_)
  refine tf_bd (by decide) (fr_X4_keeps _ _) hσ10 (fun r14 σ13 hσ13 => ?_)
  refine tf_lt (fun w15 => ?_)
  refine tf_bd (by decide) (fr_X4_sceneAfter _ _) hσ13 (fun _ σ16 hσ16 => ?_)
  exact tf_to hσ16 (tf_mo (by decide) (fr_X4_digest_286 _ _ _ _))
set_option maxRecDepth 20000 in
theorem fr_X4_digest_173  : ∀ (n : Nat) (x1 : Int64) (x5 : Int32) (σ : tn_M), tf [(2, 1), (3, 8), (3, 9), (3, 10), (3, 11), (3, 12), (19, 999), (20, 999), (21, 999), (22, 999), (23, 999), (24, 999), (25, 999)] σ (F_X4_digest_173 n x1 x5 σ) := by
  intro n
  induction n with
  | zero => intros; exact tf_none
  | succ tn_n ih =>
    intro x1 x5 σ
    rw [F_X4_digest_173]
    refine tf_ite ?_ ?_
    · exact tf_to tn_fr.rf (tf_mo (by decide) (fr_X4_digest_213 _ _))
    · refine tf_bd (by decide) (fr_X4_all _ _ _) tn_fr.rf (fun r2 σ1 hσ1 => ?_)
      refine tf_lt (fun w3 => ?_)
      refine tf_bd (by decide) (fr_X4_all _ _ _) hσ1 (fun r5 σ4 hσ4 => ?_)
      refine tf_lt (fun w6 => ?_)
      exact tf_to hσ4 (ih _ _ _)
set_option maxRecDepth 20000 in
theorem fr_X4_digest_170  (x1 : Int64) (σ : tn_M) : tf [(2, 1), (3, 8), (3, 9), (3, 10), (3, 11), (3, 12), (19, 999), (20, 999), (21, 999), (22, 999), (23, 999), (24, 999), (25, 999)] σ (F_X4_digest_170 x1 σ) := by
  unfold F_X4_digest_170
  exact tf_to tn_fr.rf (tf_mo (by decide) (fr_X4_digest_173 _ _ _ _))
set_option maxRecDepth 20000 in
theorem fr_X4_digest_59  : ∀ (n : Nat) (x1 : Int64) (x3 : Int32) (x4 : Int32) (x5 : Int32) (σ : tn_M), tf [(2, 1), (3, 8), (3, 9), (3, 10), (3, 11), (3, 12), (19, 999), (20, 999), (21, 999), (22, 999), (23, 999), (24, 999), (25, 999)] σ (F_X4_digest_59 n x1 x3 x4 x5 σ) := by
  intro n
  induction n with
  | zero => intros; exact tf_none
  | succ tn_n ih =>
    intro x1 x3 x4 x5 σ
    rw [F_X4_digest_59]
    refine tf_ite ?_ ?_
    · exact tf_to tn_fr.rf (tf_mo (by decide) (fr_X4_digest_170 _ _))
    · refine tf_bd (by decide) (fr_X4_earns _ _ _) tn_fr.rf (fun r2 σ1 hσ1 => ?_)
      refine tf_lt (fun w3 => ?_)
      refine tf_bd (by decide) (fr_X4_earns _ _ _) hσ1 (fun r5 σ4 hσ4 => ?_)
      refine tf_lt (fun w6 => ?_)
      refine tf_bd (by decide) (fr_X4_answer _ _) hσ4 (fun r8 σ7 hσ7 => ?_)
      refine tf_lt (fun w9 => ?_)
      refine tf_bd (by decide) (fr_X4_rest _ _) hσ7 (fun r11 σ10 hσ10 => ?_)
      refine tf_lt (fun w12 => ?_)
      refine tf_bd (by decide) (fr_X0_digit _ _ _) hσ10 (fun r14 σ13 hσ13 => ?_)
      refine tf_lt (fun w15 => ?_)
      refine tf_bd (by decide) (fr_X0_digit _ _ _) hσ13 (fun r17 σ16 hσ16 => ?_)
      refine tf_lt (fun w18 => ?_)
      exact tf_to hσ16 (ih _ _ _ _ _)
set_option maxRecDepth 20000 in
theorem fr_X4_digest_31  (x1 : Int64) (σ : tn_M) : tf [(2, 1), (3, 8), (3, 9), (3, 10), (3, 11), (3, 12), (19, 999), (20, 999), (21, 999), (22, 999), (23, 999), (24, 999), (25, 999)] σ (F_X4_digest_31 x1 σ) := by
  unfold F_X4_digest_31
  refine tf_bd (by decide) (fr_X4_fault _) tn_fr.rf (fun r2 σ1 hσ1 => ?_)
  refine tf_lt (fun w3 => ?_)
  refine tf_bd (by decide) (fr_X4_bestCode _ _) hσ1 (fun r5 σ4 hσ4 => ?_)
  refine tf_bd (by decide) (fr_X4_bestCode _ _) hσ4 (fun r7 σ6 hσ6 => ?_)
  exact tf_to hσ6 (tf_mo (by decide) (fr_X4_digest_59 _ _ _ _ _ _))
set_option maxRecDepth 20000 in
theorem fr_X4_digest_6  : ∀ (n : Nat) (x1 : Int64) (x3 : Int32) (σ : tn_M), tf [(2, 1), (3, 8), (3, 9), (3, 10), (3, 11), (3, 12), (19, 999), (20, 999), (21, 999), (22, 999), (23, 999), (24, 999), (25, 999)] σ (F_X4_digest_6 n x1 x3 σ) := by
  intro n
  induction n with
  | zero => intros; exact tf_none
  | succ tn_n ih =>
    intro x1 x3 σ
    rw [F_X4_digest_6]
    refine tf_ite ?_ ?_
    · exact tf_to tn_fr.rf (tf_mo (by decide) (fr_X4_digest_31 _ _))
    · refine tf_bd (by decide) (fr_X4_count _ _) tn_fr.rf (fun r2 σ1 hσ1 => ?_)
      refine tf_lt (fun w3 => ?_)
      exact tf_to hσ1 (ih _ _ _)
set_option maxRecDepth 20000 in
theorem fr_X4_digest   (σ : tn_M) : tf [(2, 1), (3, 8), (3, 9), (3, 10), (3, 11), (3, 12), (19, 999), (20, 999), (21, 999), (22, 999), (23, 999), (24, 999), (25, 999)] σ (f_X4_digest σ) := by
  unfold f_X4_digest
  exact tf_to tn_fr.rf (tf_mo (by decide) (fr_X4_digest_6 _ _ _ _))
set_option maxRecDepth 20000 in
theorem fr_X5_in  (a0 : Int64) (a2 : Int64) (a4 : Int64) (σ : tn_M) : tf [] σ (f_X5_in a0 a2 a4 σ) := by
  unfold f_X5_in
  refine tf_ite ?_ ?_
  · exact tf_some tn_fr.rf
  · refine tf_ite ?_ ?_
    · exact tf_some tn_fr.rf
    · exact tf_some tn_fr.rf
set_option maxRecDepth 20000 in
theorem fr_X5_no  (a0 : Int32) (σ : tn_M) : tf [] σ (f_X5_no a0 σ) := by
  unfold f_X5_no
  exact tf_some tn_fr.rf
set_option maxRecDepth 20000 in
theorem fr_X5_isTwo  (a0 : Int32) (σ : tn_M) : tf [] σ (f_X5_isTwo a0 σ) := by
  unfold f_X5_isTwo
  refine tf_bd (by decide) (fr_X5_in _ _ _ _) tn_fr.rf (fun r2 σ1 hσ1 => ?_)
  exact tf_zr hσ1
set_option maxRecDepth 20000 in
theorem fr_X5_met  (a1 : Int32) (σ : tn_M) : tf [(5, 4)] σ (f_X5_met a1 σ) := by
  unfold f_X5_met
  refine tf_m (tn_fr.si rfl tn_fr.rf) (fun σ1 hσ1 => ?_)
  exact tf_some hσ1
set_option maxRecDepth 20000 in
theorem fr_X5_isSheet  (a0 : Int32) (σ : tn_M) : tf [] σ (f_X5_isSheet a0 σ) := by
  unfold f_X5_isSheet
  refine tf_bd (by decide) (fr_X5_in _ _ _ _) tn_fr.rf (fun r2 σ1 hσ1 => ?_)
  exact tf_zr hσ1
set_option maxRecDepth 20000 in
theorem fr_X5_sheet_55  : ∀ (n : Nat) (x1 : Int32) (x3 : Int32) (x4 : Int32) (σ : tn_M), tf [(35, 999)] σ (F_X5_sheet_55 n x1 x3 x4 σ) := by
  intro n
  induction n with
  | zero => intros; exact tf_none
  | succ tn_n ih =>
    intro x1 x3 x4 σ
    rw [F_X5_sheet_55]
    refine tf_ite ?_ ?_
    · exact tf_some tn_fr.rf
    · refine tf_ck (fun hk1 => ?_)
      refine tf_m (tn_fr.si (by rfl) tn_fr.rf) (fun σ1 hσ1 => ?_)
      exact tf_to hσ1 (ih _ _ _ _)
set_option maxRecDepth 20000 in
theorem fr_X5_sheet  (a1 : Int32) (a2 : Int32) (a3 : Int32) (σ : tn_M) : tf [(5, 4), (33, 999), (34, 999), (35, 999)] σ (f_X5_sheet a1 a2 a3 σ) := by
  unfold f_X5_sheet
  refine tf_bd (by decide) (fr_X5_isSheet _ _) tn_fr.rf (fun r2 σ1 hσ1 => ?_)
  refine tf_ite ?_ ?_
  · exact tf_some hσ1
  · refine tf_bd (by decide) (fr_X5_in _ _ _ _) hσ1 (fun r4 σ3 hσ3 => ?_)
    refine tf_ite ?_ ?_
    · exact tf_some hσ3
    · refine tf_ite ?_ ?_
      · refine tf_ite ?_ ?_
        · refine tf_ck (fun hk1 => ?_)
          refine tf_m (tn_fr.si (by rfl) hσ3) (fun σ5 hσ5 => ?_)
          refine tf_ck (fun hk2 => ?_)
          refine tf_m (tn_fr.si (by rfl) hσ5) (fun σ6 hσ6 => ?_)
          exact tf_to hσ6 (tf_mo (by decide) (fr_X5_sheet_55 _ _ _ _ _))
        · refine tf_bd (by decide) (fr_X5_met _ _) hσ3 (fun r8 σ7 hσ7 => ?_)
          exact tf_some hσ7
      · exact tf_some hσ3
set_option maxRecDepth 20000 in
theorem fr_X5_lose  (a1 : Int32) (σ : tn_M) : tf [(5, 4), (33, 999)] σ (f_X5_lose a1 σ) := by
  unfold f_X5_lose
  refine tf_bd (by decide) (fr_X5_isSheet _ _) tn_fr.rf (fun r2 σ1 hσ1 => ?_)
  refine tf_ite ?_ ?_
  · exact tf_some hσ1
  · refine tf_ck (fun hk1 => ?_)
    refine tf_ite ?_ ?_
    · refine tf_ck (fun hk2 => ?_)
      refine tf_m (tn_fr.si (by rfl) hσ1) (fun σ3 hσ3 => ?_)
      refine tf_ck (fun hk3 => ?_)
      exact tf_some hσ3
    · refine tf_bd (by decide) (fr_X5_met _ _) hσ1 (fun r5 σ4 hσ4 => ?_)
      exact tf_some hσ4
set_option maxRecDepth 20000 in
theorem fr_X5_lacks  (a1 : Int32) (a2 : Int32) (a3 : Int32) (σ : tn_M) : tf [(5, 4)] σ (f_X5_lacks a1 a2 a3 σ) := by
  unfold f_X5_lacks
  refine tf_ck (fun hk1 => ?_)
  refine tf_ite ?_ ?_
  · refine tf_ck (fun hk2 => ?_)
    refine tf_ite ?_ ?_
    · refine tf_ck (fun hk3 => ?_)
      refine tf_bd (by decide) (fr_X5_in _ _ _ _) tn_fr.rf (fun r2 σ1 hσ1 => ?_)
      refine tf_ite ?_ ?_
      · refine tf_bd (by decide) (fr_X5_met _ _) hσ1 (fun r4 σ3 hσ3 => ?_)
        exact tf_some hσ3
      · exact tf_some hσ1
    · refine tf_bd (by decide) (fr_X5_met _ _) tn_fr.rf (fun r6 σ5 hσ5 => ?_)
      exact tf_some hσ5
  · refine tf_bd (by decide) (fr_X5_met _ _) tn_fr.rf (fun r8 σ7 hσ7 => ?_)
    exact tf_some hσ7
set_option maxRecDepth 20000 in
theorem fr_X5_cut  (a0 : Int32) (a1 : Int32) (σ : tn_M) : tf [] σ (f_X5_cut a0 a1 σ) := by
  unfold f_X5_cut
  refine tf_ite ?_ ?_
  · exact tf_some tn_fr.rf
  · refine tf_ite ?_ ?_
    · exact tf_some tn_fr.rf
    · exact tf_some tn_fr.rf
set_option maxRecDepth 20000 in
theorem fr_X5_lay  (a1 : Int32) (a2 : Int32) (a3 : Int32) (a4 : Int32) (σ : tn_M) : tf [(5, 4), (35, 999)] σ (f_X5_lay a1 a2 a3 a4 σ) := by
  unfold f_X5_lay
  refine tf_bd (by decide) (fr_X5_isSheet _ _) tn_fr.rf (fun r2 σ1 hσ1 => ?_)
  refine tf_ite ?_ ?_
  · exact tf_some hσ1
  · refine tf_bd (by decide) (fr_X5_in _ _ _ _) hσ1 (fun r4 σ3 hσ3 => ?_)
    refine tf_ite ?_ ?_
    · exact tf_some hσ3
    · refine tf_bd (by decide) (fr_X5_lacks _ _ _ _) hσ3 (fun r6 σ5 hσ5 => ?_)
      refine tf_ite ?_ ?_
      · refine tf_bd (by decide) (fr_X5_cut _ _ _) hσ5 (fun r8 σ7 hσ7 => ?_)
        refine tf_ck (fun hk1 => ?_)
        refine tf_m (tn_fr.si (by rfl) hσ7) (fun σ9 hσ9 => ?_)
        exact tf_some hσ9
      · exact tf_some hσ5
set_option maxRecDepth 20000 in
theorem fr_X5_get  (a1 : Int32) (a2 : Int32) (a3 : Int32) (σ : tn_M) : tf [(5, 4)] σ (f_X5_get a1 a2 a3 σ) := by
  unfold f_X5_get
  refine tf_bd (by decide) (fr_X5_isSheet _ _) tn_fr.rf (fun r2 σ1 hσ1 => ?_)
  refine tf_ite ?_ ?_
  · exact tf_some hσ1
  · refine tf_bd (by decide) (fr_X5_in _ _ _ _) hσ1 (fun r4 σ3 hσ3 => ?_)
    refine tf_ite ?_ ?_
    · exact tf_some hσ3
    · refine tf_bd (by decide) (fr_X5_lacks _ _ _ _) hσ3 (fun r6 σ5 hσ5 => ?_)
      refine tf_ite ?_ ?_
      · refine tf_ck (fun hk1 => ?_)
        exact tf_some hσ5
      · exact tf_some hσ5
set_option maxRecDepth 20000 in
theorem fr_X5_copy_157  : ∀ (n : Nat) (x3 : Int32) (x4 : Int32) (x5 : Int32) (x6 : Int32) (σ : tn_M), tf [(35, 999)] σ (F_X5_copy_157 n x3 x4 x5 x6 σ) := by
  intro n
  induction n with
  | zero => intros; exact tf_none
  | succ tn_n ih =>
    intro x3 x4 x5 x6 σ
    rw [F_X5_copy_157]
    refine tf_ite ?_ ?_
    · exact tf_some tn_fr.rf
    · refine tf_ck (fun hk1 => ?_)
      refine tf_ck (fun hk2 => ?_)
      refine tf_m (tn_fr.si (by rfl) tn_fr.rf) (fun σ1 hσ1 => ?_)
      exact tf_to hσ1 (ih _ _ _ _ _)
set_option maxRecDepth 20000 in
theorem fr_X5_copy_154  (x3 : Int32) (x4 : Int32) (x5 : Int32) (σ : tn_M) : tf [(35, 999)] σ (F_X5_copy_154 x3 x4 x5 σ) := by
  unfold F_X5_copy_154
  exact tf_to tn_fr.rf (tf_mo (by decide) (fr_X5_copy_157 _ _ _ _ _ _))
set_option maxRecDepth 20000 in
theorem fr_X5_copy_120  : ∀ (n : Nat) (x1 : Int32) (x2 : Int32) (x3 : Int32) (x4 : Int32) (x5 : Int32) (x6 : Int32) (σ : tn_M), tf [(35, 999), (36, 999)] σ (F_X5_copy_120 n x1 x2 x3 x4 x5 x6 σ) := by
  intro n
  induction n with
  | zero => intros; exact tf_none
  | succ tn_n ih =>
    intro x1 x2 x3 x4 x5 x6 σ
    rw [F_X5_copy_120]
    refine tf_ite ?_ ?_
    · exact tf_to tn_fr.rf (tf_mo (by decide) (fr_X5_copy_154 _ _ _ _))
    · refine tf_ck (fun hk1 => ?_)
      refine tf_ck (fun hk2 => ?_)
      refine tf_m (tn_fr.si (by rfl) tn_fr.rf) (fun σ1 hσ1 => ?_)
      exact tf_to hσ1 (ih _ _ _ _ _ _ _)
set_option maxRecDepth 20000 in
theorem fr_X5_copy_111   (σ : tn_M) : tf [(5, 4)] σ (F_X5_copy_111 σ) := by
  unfold F_X5_copy_111
  refine tf_bd (by decide) (fr_X5_met _ _) tn_fr.rf (fun r2 σ1 hσ1 => ?_)
  exact tf_some hσ1
set_option maxRecDepth 20000 in
theorem fr_X5_copy_35   (σ : tn_M) : tf [(5, 4)] σ (F_X5_copy_35 σ) := by
  unfold F_X5_copy_35
  refine tf_bd (by decide) (fr_X5_met _ _) tn_fr.rf (fun r2 σ1 hσ1 => ?_)
  exact tf_some hσ1
set_option maxRecDepth 20000 in
theorem fr_X5_copy  (a1 : Int32) (a2 : Int32) (a3 : Int32) (a4 : Int32) (a5 : Int32) (σ : tn_M) : tf [(5, 4), (35, 999), (36, 999)] σ (f_X5_copy a1 a2 a3 a4 a5 σ) := by
  unfold f_X5_copy
  refine tf_bd (by decide) (fr_X5_isSheet _ _) tn_fr.rf (fun r2 σ1 hσ1 => ?_)
  refine tf_ite ?_ ?_
  · exact tf_some hσ1
  · refine tf_bd (by decide) (fr_X5_isSheet _ _) hσ1 (fun r4 σ3 hσ3 => ?_)
    refine tf_ite ?_ ?_
    · exact tf_some hσ3
    · refine tf_ck (fun hk1 => ?_)
      refine tf_ite ?_ ?_
      · exact tf_to hσ3 (tf_mo (by decide) (fr_X5_copy_35 _))
      · refine tf_ck (fun hk2 => ?_)
        refine tf_ite ?_ ?_
        · refine tf_ck (fun hk3 => ?_)
          refine tf_ck (fun hk4 => ?_)
          refine tf_ite ?_ ?_
          · refine tf_ite ?_ ?_
            · exact tf_to hσ3 (tf_mo (by decide) (fr_X5_copy_111 _))
            · refine tf_ite ?_ ?_
              · exact tf_to hσ3 (tf_mo (by decide) (fr_X5_copy_111 _))
              · refine tf_ite ?_ ?_
                · exact tf_to hσ3 (tf_mo (by decide) (fr_X5_copy_111 _))
                · refine tf_ck (fun hk5 => ?_)
                  refine tf_ite ?_ ?_
                  · exact tf_to hσ3 (tf_mo (by decide) (fr_X5_copy_111 _))
                  · refine tf_ck (fun hk6 => ?_)
                    refine tf_ite ?_ ?_
                    · exact tf_to hσ3 (tf_mo (by decide) (fr_X5_copy_120 _ _ _ _ _ _ _ _))
                    · exact tf_to hσ3 (tf_mo (by decide) (fr_X5_copy_111 _))
          · refine tf_bd (by decide) (fr_X5_met _ _) hσ3 (fun r6 σ5 hσ5 => ?_)
            exact tf_some hσ5
        · exact tf_to hσ3 (tf_mo (by decide) (fr_X5_copy_35 _))
set_option maxRecDepth 20000 in
theorem fr_X5_divisor_17  : ∀ (n : Nat) (x4 : Int64) (x6 : Int64) (σ : tn_M), tf [] σ (F_X5_divisor_17 n x4 x6 σ) := by
  intro n
  induction n with
  | zero => intros; exact tf_none
  | succ tn_n ih =>
    intro x4 x6 σ
    rw [F_X5_divisor_17]
    refine tf_ite ?_ ?_
    · exact tf_some tn_fr.rf
    · refine tf_dzl ?_
      refine tf_lt (fun w1 => ?_)
      exact tf_to tn_fr.rf (ih _ _ _)
set_option maxRecDepth 20000 in
theorem fr_X5_divisor  (a0 : Int64) (a2 : Int64) (σ : tn_M) : tf [] σ (f_X5_divisor a0 a2 σ) := by
  unfold f_X5_divisor
  refine tf_lt (fun v1 => ?_)
  exact tf_to tn_fr.rf (tf_mo (by decide) (fr_X5_divisor_17 _ _ _ _))
set_option maxRecDepth 20000 in
theorem fr_X5_part  (a0 : Int64) (a2 : Int64) (a4 : Int32) (σ : tn_M) : tf [] σ (f_X5_part a0 a2 a4 σ) := by
  unfold f_X5_part
  refine tf_lt (fun v1 => ?_)
  refine tf_bd (by decide) (fr_X5_divisor _ _ _) tn_fr.rf (fun r3 σ2 hσ2 => ?_)
  refine tf_dzl ?_
  exact tf_some hσ2
set_option maxRecDepth 20000 in
theorem fr_X5_type  (a1 : Int32) (σ : tn_M) : tf [(5, 6), (37, 999)] σ (f_X5_type a1 σ) := by
  unfold f_X5_type
  refine tf_bd (by decide) (fr_X5_in _ _ _ _) tn_fr.rf (fun r2 σ1 hσ1 => ?_)
  refine tf_ite ?_ ?_
  · exact tf_some hσ1
  · refine tf_ite ?_ ?_
    · exact tf_some hσ1
    · refine tf_ck (fun hk1 => ?_)
      refine tf_m (tn_fr.si (by rfl) hσ1) (fun σ3 hσ3 => ?_)
      refine tf_m (tn_fr.si rfl hσ3) (fun σ4 hσ4 => ?_)
      exact tf_some hσ4
set_option maxRecDepth 20000 in
theorem fr_X5_wipe   (σ : tn_M) : tf [(5, 6)] σ (f_X5_wipe σ) := by
  unfold f_X5_wipe
  refine tf_m (tn_fr.si rfl tn_fr.rf) (fun σ1 hσ1 => ?_)
  exact tf_some hσ1
set_option maxRecDepth 20000 in
theorem fr_X5_here   (σ : tn_M) : tf [] σ (f_X5_here σ) := by
  unfold f_X5_here
  refine tf_ite ?_ ?_
  · exact tf_some tn_fr.rf
  · refine tf_ck (fun hk1 => ?_)
    exact tf_some tn_fr.rf
set_option maxRecDepth 20000 in
theorem fr_X5_goes  (a1 : Int32) (σ : tn_M) : tf [(5, 7)] σ (f_X5_goes a1 σ) := by
  unfold f_X5_goes
  refine tf_bd (by decide) (fr_X5_here _) tn_fr.rf (fun r2 σ1 hσ1 => ?_)
  refine tf_lt (fun v3 => ?_)
  refine tf_lt (fun v4 => ?_)
  refine tf_m (tn_fr.si rfl hσ1) (fun σ5 hσ5 => ?_)
  exact tf_zr hσ5
set_option maxRecDepth 20000 in
theorem fr_X5_figures_90  (x4 : Int32) (σ : tn_M) : tf [(5, 7)] σ (F_X5_figures_90 x4 σ) := by
  unfold F_X5_figures_90
  refine tf_m (tn_fr.si rfl tn_fr.rf) (fun σ1 hσ1 => ?_)
  exact tf_some hσ1
set_option maxRecDepth 20000 in
theorem fr_X5_figures_65  (x2 : Int32) (x3 : Int32) (x4 : Int32) (x5 : Int32) (σ : tn_M) : tf [(5, 7)] σ (F_X5_figures_65 x2 x3 x4 x5 σ) := by
  unfold F_X5_figures_65
  refine tf_ite ?_ ?_
  · exact tf_to tn_fr.rf (tf_mo (by decide) (fr_X5_figures_90 _ _))
  · refine tf_bd (by decide) (fr_X5_in _ _ _ _) tn_fr.rf (fun r2 σ1 hσ1 => ?_)
    refine tf_ite ?_ ?_
    · exact tf_to hσ1 (tf_mo (by decide) (fr_X5_figures_90 _ _))
    · exact tf_some hσ1
set_option maxRecDepth 20000 in
theorem fr_X5_figures_9  : ∀ (n : Nat) (x1 : Int32) (x2 : Int32) (x3 : Int32) (x4 : Int32) (x5 : Int32) (σ : tn_M), tf [(5, 7)] σ (F_X5_figures_9 n x1 x2 x3 x4 x5 σ) := by
  intro n
  induction n with
  | zero => intros; exact tf_none
  | succ tn_n ih =>
    intro x1 x2 x3 x4 x5 σ
    rw [F_X5_figures_9]
    refine tf_ite ?_ ?_
    · exact tf_to tn_fr.rf (tf_mo (by decide) (fr_X5_figures_65 _ _ _ _ _))
    · refine tf_bd (by decide) (fr_X5_here _) tn_fr.rf (fun r2 σ1 hσ1 => ?_)
      refine tf_bd (by decide) (fr_X5_in _ _ _ _) hσ1 (fun r4 σ3 hσ3 => ?_)
      refine tf_ite ?_ ?_
      · exact tf_to hσ3 (tf_mo (by decide) (fr_X5_figures_65 _ _ _ _ _))
      · refine tf_bd (by decide) (fr_X5_here _) hσ3 (fun r6 σ5 hσ5 => ?_)
        refine tf_lt (fun w7 => ?_)
        refine tf_m (tn_fr.si rfl hσ5) (fun σ8 hσ8 => ?_)
        exact tf_to hσ8 (ih _ _ _ _ _ _)
set_option maxRecDepth 20000 in
theorem fr_X5_figures  (a1 : Int32) (a2 : Int32) (a3 : Int32) (σ : tn_M) : tf [(5, 7)] σ (f_X5_figures a1 a2 a3 σ) := by
  unfold f_X5_figures
  exact tf_to tn_fr.rf (tf_mo (by decide) (fr_X5_figures_9 _ _ _ _ _ _ _))
set_option maxRecDepth 20000 in
theorem fr_X5_readsShop   (σ : tn_M) : tf [(5, 7), (5, 8), (38, 999), (39, 999)] σ (f_X5_readsShop σ) := by
  unfold f_X5_readsShop
  refine tf_ite ?_ ?_
  · exact tf_some tn_fr.rf
  · refine tf_m (tn_fr.si rfl tn_fr.rf) (fun σ1 hσ1 => ?_)
    refine tf_bd (by decide) (fr_X5_figures _ _ _ _) hσ1 (fun r3 σ2 hσ2 => ?_)
    refine tf_ite ?_ ?_
    · exact tf_some hσ2
    · refine tf_bd (by decide) (fr_X5_goes _ _) hσ2 (fun r5 σ4 hσ4 => ?_)
      refine tf_ite ?_ ?_
      · exact tf_some hσ4
      · refine tf_bd (by decide) (fr_X5_figures _ _ _ _) hσ4 (fun r7 σ6 hσ6 => ?_)
        refine tf_ite ?_ ?_
        · refine tf_ck (fun hk1 => ?_)
          refine tf_m (tn_fr.si (by rfl) hσ6) (fun σ8 hσ8 => ?_)
          refine tf_ck (fun hk2 => ?_)
          refine tf_m (tn_fr.si (by rfl) hσ8) (fun σ9 hσ9 => ?_)
          refine tf_m (tn_fr.si rfl hσ9) (fun σ10 hσ10 => ?_)
          exact tf_some hσ10
        · exact tf_some hσ6
set_option maxRecDepth 20000 in
theorem fr_X5_behind_53   (σ : tn_M) : tf [(5, 7)] σ (F_X5_behind_53 σ) := by
  unfold F_X5_behind_53
  refine tf_bd (by decide) (fr_X5_figures _ _ _ _) tn_fr.rf (fun r2 σ1 hσ1 => ?_)
  exact tf_some hσ1
set_option maxRecDepth 20000 in
theorem fr_X5_behind  (a1 : Int32) (σ : tn_M) : tf [(5, 7)] σ (f_X5_behind a1 σ) := by
  unfold f_X5_behind
  refine tf_bd (by decide) (fr_X5_goes _ _) tn_fr.rf (fun r2 σ1 hσ1 => ?_)
  refine tf_ite ?_ ?_
  · exact tf_some hσ1
  · refine tf_ite ?_ ?_
    · refine tf_bd (by decide) (fr_X5_goes _ _) hσ1 (fun r6 σ5 hσ5 => ?_)
      refine tf_ite ?_ ?_
      · refine tf_bd (by decide) (fr_X5_figures _ _ _ _) hσ5 (fun r8 σ7 hσ7 => ?_)
        exact tf_some hσ7
      · exact tf_some hσ5
    · refine tf_ite ?_ ?_
      · exact tf_to hσ1 (tf_mo (by decide) (fr_X5_behind_53 _))
      · refine tf_ite ?_ ?_
        · exact tf_to hσ1 (tf_mo (by decide) (fr_X5_behind_53 _))
        · refine tf_bd (by decide) (fr_X5_figures _ _ _ _) hσ1 (fun r4 σ3 hσ3 => ?_)
          exact tf_some hσ3
set_option maxRecDepth 20000 in
theorem fr_X5_readsSort_91   (σ : tn_M) : tf [(5, 11)] σ (F_X5_readsSort_91 σ) := by
  unfold F_X5_readsSort_91
  refine tf_m (tn_fr.si rfl tn_fr.rf) (fun σ1 hσ1 => ?_)
  exact tf_some hσ1
set_option maxRecDepth 20000 in
theorem fr_X5_readsSort_50  : ∀ (n : Nat) (x2 : Int32) (σ : tn_M), tf [(5, 7), (5, 11), (40, 999)] σ (F_X5_readsSort_50 n x2 σ) := by
  intro n
  induction n with
  | zero => intros; exact tf_none
  | succ tn_n ih =>
    intro x2 σ
    rw [F_X5_readsSort_50]
    refine tf_ite ?_ ?_
    · exact tf_to tn_fr.rf (tf_mo (by decide) (fr_X5_readsSort_91 _))
    · refine tf_bd (by decide) (fr_X5_behind _ _) tn_fr.rf (fun r2 σ1 hσ1 => ?_)
      refine tf_ite ?_ ?_
      · exact tf_some hσ1
      · refine tf_ck (fun hk1 => ?_)
        refine tf_m (tn_fr.si (by rfl) hσ1) (fun σ3 hσ3 => ?_)
        exact tf_to hσ3 (ih _ _)
set_option maxRecDepth 20000 in
theorem fr_X5_readsSort   (σ : tn_M) : tf [(5, 7), (5, 11), (40, 999)] σ (f_X5_readsSort σ) := by
  unfold f_X5_readsSort
  refine tf_ite ?_ ?_
  · exact tf_some tn_fr.rf
  · refine tf_m (tn_fr.si rfl tn_fr.rf) (fun σ1 hσ1 => ?_)
    refine tf_bd (by decide) (fr_X5_figures _ _ _ _) hσ1 (fun r3 σ2 hσ2 => ?_)
    refine tf_ite ?_ ?_
    · refine tf_ck (fun hk1 => ?_)
      refine tf_m (tn_fr.si (by rfl) hσ2) (fun σ4 hσ4 => ?_)
      exact tf_to hσ4 (tf_mo (by decide) (fr_X5_readsSort_50 _ _ _))
    · exact tf_some hσ2
set_option maxRecDepth 20000 in
theorem fr_X5_stops   (σ : tn_M) : tf [(5, 8), (5, 11)] σ (f_X5_stops σ) := by
  unfold f_X5_stops
  refine tf_m (tn_fr.si rfl tn_fr.rf) (fun σ1 hσ1 => ?_)
  refine tf_m (tn_fr.si rfl hσ1) (fun σ2 hσ2 => ?_)
  exact tf_some hσ2
set_option maxRecDepth 20000 in
theorem fr_X5_reads_112 (c28 : Int32 → tn_M → Option (Int32 × tn_M)) (hc28 : ∀ (x1 : Int32) (σ : tn_M), tf [(5, 7), (5, 8), (5, 11), (38, 999), (39, 999), (40, 999)] σ (c28 x1 σ)) (x1 : Int32) (σ : tn_M) : tf [(5, 7), (5, 8), (5, 11), (38, 999), (39, 999), (40, 999)] σ (F_X5_reads_112 c28 x1 σ) := by
  unfold F_X5_reads_112
  refine tf_lt (fun v1 => ?_)
  refine tf_m (tn_fr.si rfl tn_fr.rf) (fun σ2 hσ2 => ?_)
  exact tf_to hσ2 (tf_mo (by decide) (hc28 _ _))
set_option maxRecDepth 20000 in
theorem fr_X5_reads_107   (σ : tn_M) : tf [(5, 8), (5, 11)] σ (F_X5_reads_107 σ) := by
  unfold F_X5_reads_107
  refine tf_bd (by decide) (fr_X5_stops _) tn_fr.rf (fun r2 σ1 hσ1 => ?_)
  exact tf_some hσ1
set_option maxRecDepth 20000 in
theorem fr_X5_reads_77 (c28 : Int32 → tn_M → Option (Int32 × tn_M)) (hc28 : ∀ (x1 : Int32) (σ : tn_M), tf [(5, 7), (5, 8), (5, 11), (38, 999), (39, 999), (40, 999)] σ (c28 x1 σ))  (σ : tn_M) : tf [(5, 7), (5, 8), (5, 11), (38, 999), (39, 999), (40, 999)] σ (F_X5_reads_77 c28 σ) := by
  unfold F_X5_reads_77
  refine tf_lt (fun v1 => ?_)
  refine tf_ite ?_ ?_
  · exact tf_to tn_fr.rf (tf_mo (by decide) (fr_X5_reads_112 _ hc28 _ _))
  · refine tf_bd (by decide) (fr_X5_here _) tn_fr.rf (fun r3 σ2 hσ2 => ?_)
    refine tf_ite ?_ ?_
    · exact tf_to hσ2 (tf_mo (by decide) (fr_X5_reads_112 _ hc28 _ _))
    · exact tf_to hσ2 (tf_mo (by decide) (fr_X5_reads_107 _))
set_option maxRecDepth 20000 in
theorem fr_X5_reads_72   (σ : tn_M) : tf [(5, 8), (5, 11)] σ (F_X5_reads_72 σ) := by
  unfold F_X5_reads_72
  refine tf_bd (by decide) (fr_X5_stops _) tn_fr.rf (fun r2 σ1 hσ1 => ?_)
  exact tf_some hσ1
set_option maxRecDepth 20000 in
theorem fr_X5_reads_49 (c28 : Int32 → tn_M → Option (Int32 × tn_M)) (hc28 : ∀ (x1 : Int32) (σ : tn_M), tf [(5, 7), (5, 8), (5, 11), (38, 999), (39, 999), (40, 999)] σ (c28 x1 σ)) (x2 : Int32) (σ : tn_M) : tf [(5, 7), (5, 8), (5, 11), (38, 999), (39, 999), (40, 999)] σ (F_X5_reads_49 c28 x2 σ) := by
  unfold F_X5_reads_49
  refine tf_ite ?_ ?_
  · refine tf_bd (by decide) (fr_X5_readsShop _) tn_fr.rf (fun r4 σ3 hσ3 => ?_)
    refine tf_ite ?_ ?_
    · exact tf_to hσ3 (tf_mo (by decide) (fr_X5_reads_72 _))
    · exact tf_to hσ3 (tf_mo (by decide) (fr_X5_reads_77 _ hc28 _))
  · refine tf_bd (by decide) (fr_X5_readsSort _) tn_fr.rf (fun r2 σ1 hσ1 => ?_)
    refine tf_ite ?_ ?_
    · exact tf_to hσ1 (tf_mo (by decide) (fr_X5_reads_72 _))
    · exact tf_to hσ1 (tf_mo (by decide) (fr_X5_reads_77 _ hc28 _))
set_option maxRecDepth 20000 in
theorem fr_X5_reads_28  : ∀ (n : Nat) (x1 : Int32) (σ : tn_M), tf [(5, 7), (5, 8), (5, 11), (38, 999), (39, 999), (40, 999)] σ (F_X5_reads_28 n x1 σ) := by
  intro n
  induction n with
  | zero => intros; exact tf_none
  | succ tn_n ih =>
    intro x1 σ
    rw [F_X5_reads_28]
    refine tf_ite ?_ ?_
    · exact tf_some tn_fr.rf
    · refine tf_bd (by decide) (fr_X5_here _) tn_fr.rf (fun r2 σ1 hσ1 => ?_)
      refine tf_ite ?_ ?_
      · exact tf_to hσ1 (tf_mo (by decide) (fr_X5_reads_49 _ (fun _ _ => ih _ _) _ _))
      · refine tf_ite ?_ ?_
        · exact tf_to hσ1 (tf_mo (by decide) (fr_X5_reads_49 _ (fun _ _ => ih _ _) _ _))
        · exact tf_to hσ1 (tf_mo (by decide) (fr_X5_reads_72 _))
set_option maxRecDepth 20000 in
theorem fr_X5_reads   (σ : tn_M) : tf [(5, 7), (5, 8), (5, 11), (38, 999), (39, 999), (40, 999)] σ (f_X5_reads σ) := by
  unfold f_X5_reads
  refine tf_m (tn_fr.si rfl tn_fr.rf) (fun σ1 hσ1 => ?_)
  refine tf_m (tn_fr.si rfl hσ1) (fun σ2 hσ2 => ?_)
  refine tf_m (tn_fr.si rfl hσ2) (fun σ3 hσ3 => ?_)
  refine tf_lt (fun v4 => ?_)
  exact tf_to hσ3 (tf_mo (by decide) (fr_X5_reads_28 _ _ _))
set_option maxRecDepth 20000 in
theorem fr_X5_fault   (σ : tn_M) : tf [(5, 7), (5, 8), (5, 11), (38, 999), (39, 999), (40, 999)] σ (f_X5_fault σ) := by
  unfold f_X5_fault
  refine tf_bd (by decide) (fr_X5_reads _) tn_fr.rf (fun r2 σ1 hσ1 => ?_)
  exact tf_some hσ1
set_option maxRecDepth 20000 in
theorem fr_X5_isShop  (a1 : Int32) (σ : tn_M) : tf [(5, 7), (5, 8), (5, 11), (38, 999), (39, 999), (40, 999)] σ (f_X5_isShop a1 σ) := by
  unfold f_X5_isShop
  refine tf_bd (by decide) (fr_X5_reads _) tn_fr.rf (fun r2 σ1 hσ1 => ?_)
  refine tf_bd (by decide) (fr_X5_in _ _ _ _) hσ1 (fun r4 σ3 hσ3 => ?_)
  exact tf_zr hσ3
set_option maxRecDepth 20000 in
theorem fr_X5_isBound  (a1 : Int32) (σ : tn_M) : tf [] σ (f_X5_isBound a1 σ) := by
  unfold f_X5_isBound
  refine tf_ck (fun hk1 => ?_)
  refine tf_lt (fun v1 => ?_)
  exact tf_zr tn_fr.rf
set_option maxRecDepth 20000 in
theorem fr_X5_shop  (a1 : Int32) (a2 : Int32) (σ : tn_M) : tf [(5, 7), (5, 8), (5, 11), (38, 999), (39, 999), (40, 999)] σ (f_X5_shop a1 a2 σ) := by
  unfold f_X5_shop
  refine tf_bd (by decide) (fr_X5_isShop _ _) tn_fr.rf (fun r2 σ1 hσ1 => ?_)
  refine tf_ite ?_ ?_
  · exact tf_some hσ1
  · refine tf_bd (by decide) (fr_X5_in _ _ _ _) hσ1 (fun r4 σ3 hσ3 => ?_)
    refine tf_ite ?_ ?_
    · exact tf_some hσ3
    · refine tf_ite ?_ ?_
      · refine tf_ck (fun hk1 => ?_)
        exact tf_some hσ3
      · refine tf_ite ?_ ?_
        · refine tf_ck (fun hk2 => ?_)
          exact tf_some hσ3
        · refine tf_bd (by decide) (fr_X5_isBound _ _) hσ3 (fun r6 σ5 hσ5 => ?_)
          refine tf_ite ?_ ?_
          · exact tf_some hσ5
          · exact tf_some hσ5
set_option maxRecDepth 20000 in
theorem fr_X5_sort  (a1 : Int32) (a2 : Int32) (σ : tn_M) : tf [(5, 7), (5, 8), (5, 11), (38, 999), (39, 999), (40, 999)] σ (f_X5_sort a1 a2 σ) := by
  unfold f_X5_sort
  refine tf_bd (by decide) (fr_X5_reads _) tn_fr.rf (fun r2 σ1 hσ1 => ?_)
  refine tf_bd (by decide) (fr_X5_in _ _ _ _) hσ1 (fun r4 σ3 hσ3 => ?_)
  refine tf_ite ?_ ?_
  · exact tf_some hσ3
  · refine tf_bd (by decide) (fr_X5_in _ _ _ _) hσ3 (fun r6 σ5 hσ5 => ?_)
    refine tf_ite ?_ ?_
    · exact tf_some hσ5
    · refine tf_ck (fun hk1 => ?_)
      exact tf_some hσ5
set_option maxRecDepth 20000 in
theorem fr_X5_high  (a0 : Int32) (σ : tn_M) : tf [] σ (f_X5_high a0 σ) := by
  unfold f_X5_high
  refine tf_ite ?_ ?_
  · exact tf_some tn_fr.rf
  · refine tf_ite ?_ ?_
    · exact tf_some tn_fr.rf
    · refine tf_ite ?_ ?_
      · exact tf_some tn_fr.rf
      · refine tf_ite ?_ ?_
        · exact tf_some tn_fr.rf
        · refine tf_ite ?_ ?_
          · exact tf_some tn_fr.rf
          · exact tf_some tn_fr.rf
set_option maxRecDepth 20000 in
theorem fr_X5_set  (a1 : Int32) (a2 : Int32) (σ : tn_M) : tf [(41, 999)] σ (f_X5_set a1 a2 σ) := by
  unfold f_X5_set
  refine tf_bd (by decide) (fr_X5_in _ _ _ _) tn_fr.rf (fun r2 σ1 hσ1 => ?_)
  refine tf_ite ?_ ?_
  · exact tf_some hσ1
  · refine tf_bd (by decide) (fr_X5_high _ _) hσ1 (fun r4 σ3 hσ3 => ?_)
    refine tf_bd (by decide) (fr_X5_in _ _ _ _) hσ3 (fun r6 σ5 hσ5 => ?_)
    refine tf_ite ?_ ?_
    · exact tf_some hσ5
    · refine tf_ck (fun hk1 => ?_)
      refine tf_lt (fun w7 => ?_)
      refine tf_ck (fun hk2 => ?_)
      refine tf_m (tn_fr.si (by rfl) hσ5) (fun σ8 hσ8 => ?_)
      exact tf_some hσ8
set_option maxRecDepth 20000 in
theorem fr_X5_hours  (a1 : Int32) (a2 : Int32) (σ : tn_M) : tf [(42, 999)] σ (f_X5_hours a1 a2 σ) := by
  unfold f_X5_hours
  refine tf_bd (by decide) (fr_X5_in _ _ _ _) tn_fr.rf (fun r2 σ1 hσ1 => ?_)
  refine tf_ite ?_ ?_
  · exact tf_some hσ1
  · refine tf_bd (by decide) (fr_X5_in _ _ _ _) hσ1 (fun r4 σ3 hσ3 => ?_)
    refine tf_ite ?_ ?_
    · exact tf_some hσ3
    · refine tf_ck (fun hk1 => ?_)
      refine tf_lt (fun w5 => ?_)
      refine tf_ck (fun hk2 => ?_)
      refine tf_m (tn_fr.si (by rfl) hσ3) (fun σ6 hσ6 => ?_)
      exact tf_some hσ6
set_option maxRecDepth 20000 in
theorem fr_X5_read_27  : ∀ (n : Nat) (x1 : Int32) (x2 : Int32) (σ : tn_M), tf [(42, 999)] σ (F_X5_read_27 n x1 x2 σ) := by
  intro n
  induction n with
  | zero => intros; exact tf_none
  | succ tn_n ih =>
    intro x1 x2 σ
    rw [F_X5_read_27]
    refine tf_ck (fun hk1 => ?_)
    refine tf_ite ?_ ?_
    · exact tf_some tn_fr.rf
    · refine tf_ck (fun hk2 => ?_)
      refine tf_bd (by decide) (fr_X5_hours _ _ _) tn_fr.rf (fun r2 σ1 hσ1 => ?_)
      refine tf_ite ?_ ?_
      · exact tf_some hσ1
      · exact tf_to hσ1 (ih _ _ _)
set_option maxRecDepth 20000 in
theorem fr_X5_read  (a1 : Int32) (σ : tn_M) : tf [(5, 4), (42, 999)] σ (f_X5_read a1 σ) := by
  unfold f_X5_read
  refine tf_bd (by decide) (fr_X5_isSheet _ _) tn_fr.rf (fun r2 σ1 hσ1 => ?_)
  refine tf_ite ?_ ?_
  · exact tf_some hσ1
  · refine tf_ck (fun hk1 => ?_)
    refine tf_ite ?_ ?_
    · exact tf_to hσ1 (tf_mo (by decide) (fr_X5_read_27 _ _ _ _))
    · refine tf_bd (by decide) (fr_X5_met _ _) hσ1 (fun r4 σ3 hσ3 => ?_)
      exact tf_some hσ3
set_option maxRecDepth 20000 in
theorem fr_X5_tries_69   (σ : tn_M) : tf [(5, 18), (5, 19), (5, 20)] σ (F_X5_tries_69 σ) := by
  unfold F_X5_tries_69
  refine tf_m (tn_fr.si rfl tn_fr.rf) (fun σ1 hσ1 => ?_)
  refine tf_m (tn_fr.si rfl hσ1) (fun σ2 hσ2 => ?_)
  refine tf_m (tn_fr.si rfl hσ2) (fun σ3 hσ3 => ?_)
  exact tf_some hσ3
set_option maxRecDepth 20000 in
theorem fr_X5_tries_44  : ∀ (n : Nat) (x1 : Int32) (σ : tn_M), tf [(5, 18), (5, 19), (5, 20), (45, 999)] σ (F_X5_tries_44 n x1 σ) := by
  intro n
  induction n with
  | zero => intros; exact tf_none
  | succ tn_n ih =>
    intro x1 σ
    rw [F_X5_tries_44]
    refine tf_ite ?_ ?_
    · exact tf_to tn_fr.rf (tf_mo (by decide) (fr_X5_tries_69 _))
    · refine tf_ck (fun hk1 => ?_)
      refine tf_ck (fun hk2 => ?_)
      refine tf_m (tn_fr.si (by rfl) tn_fr.rf) (fun σ1 hσ1 => ?_)
      exact tf_to hσ1 (ih _ _)
set_option maxRecDepth 20000 in
theorem fr_X5_tries_42   (σ : tn_M) : tf [(5, 18), (5, 19), (5, 20), (45, 999)] σ (F_X5_tries_42 σ) := by
  unfold F_X5_tries_42
  exact tf_to tn_fr.rf (tf_mo (by decide) (fr_X5_tries_44 _ _ _))
set_option maxRecDepth 20000 in
theorem fr_X5_tries_7  : ∀ (n : Nat) (x1 : Int32) (σ : tn_M), tf [(5, 18), (5, 19), (5, 20), (44, 999), (45, 999), (46, 999)] σ (F_X5_tries_7 n x1 σ) := by
  intro n
  induction n with
  | zero => intros; exact tf_none
  | succ tn_n ih =>
    intro x1 σ
    rw [F_X5_tries_7]
    refine tf_ite ?_ ?_
    · exact tf_to tn_fr.rf (tf_mo (by decide) (fr_X5_tries_42 _))
    · refine tf_ck (fun hk1 => ?_)
      refine tf_ck (fun hk2 => ?_)
      refine tf_m (tn_fr.si (by rfl) tn_fr.rf) (fun σ1 hσ1 => ?_)
      refine tf_ck (fun hk3 => ?_)
      refine tf_ck (fun hk4 => ?_)
      refine tf_m (tn_fr.si (by rfl) hσ1) (fun σ2 hσ2 => ?_)
      exact tf_to hσ2 (ih _ _)
set_option maxRecDepth 20000 in
theorem fr_X5_tries   (σ : tn_M) : tf [(5, 7), (5, 8), (5, 11), (5, 18), (5, 19), (5, 20), (38, 999), (39, 999), (40, 999), (44, 999), (45, 999), (46, 999)] σ (f_X5_tries σ) := by
  unfold f_X5_tries
  refine tf_bd (by decide) (fr_X5_reads _) tn_fr.rf (fun r2 σ1 hσ1 => ?_)
  exact tf_to hσ1 (tf_mo (by decide) (fr_X5_tries_7 _ _ _))
set_option maxRecDepth 20000 in
theorem fr_X5_openIn_4  : ∀ (n : Nat) (x1 : Int32) (x2 : Int32) (x3 : Int32) (σ : tn_M), tf [] σ (F_X5_openIn_4 n x1 x2 x3 σ) := by
  intro n
  induction n with
  | zero => intros; exact tf_none
  | succ tn_n ih =>
    intro x1 x2 x3 σ
    rw [F_X5_openIn_4]
    refine tf_ite ?_ ?_
    · exact tf_some tn_fr.rf
    · refine tf_ck (fun hk1 => ?_)
      refine tf_lt (fun v1 => ?_)
      exact tf_to tn_fr.rf (ih _ _ _ _)
set_option maxRecDepth 20000 in
theorem fr_X5_openIn  (a1 : Int32) (σ : tn_M) : tf [] σ (f_X5_openIn a1 σ) := by
  unfold f_X5_openIn
  exact tf_to tn_fr.rf (tf_mo (by decide) (fr_X5_openIn_4 _ _ _ _ _))
set_option maxRecDepth 20000 in
theorem fr_X5_open  (a1 : Int32) (σ : tn_M) : tf [(5, 7), (5, 8), (5, 11), (5, 18), (5, 19), (5, 20), (38, 999), (39, 999), (40, 999), (44, 999), (45, 999), (46, 999)] σ (f_X5_open a1 σ) := by
  unfold f_X5_open
  refine tf_bd (by decide) (fr_X5_in _ _ _ _) tn_fr.rf (fun r2 σ1 hσ1 => ?_)
  refine tf_ite ?_ ?_
  · exact tf_some hσ1
  · refine tf_bd (by decide) (fr_X5_tries _) hσ1 (fun _ σ3 hσ3 => ?_)
    refine tf_bd (by decide) (fr_X5_openIn _ _) hσ3 (fun r5 σ4 hσ4 => ?_)
    exact tf_some hσ4
set_option maxRecDepth 20000 in
theorem fr_X5_sizesOf_32 (c4 : Int32 → Int32 → Int32 → tn_M → Option (Int32 × tn_M)) (hc4 : ∀ (x1 : Int32) (x2 : Int32) (x3 : Int32) (σ : tn_M), tf [] σ (c4 x1 x2 x3 σ)) (x1 : Int32) (x3 : Int32) (y0 : Int32) (y1 : Int32) (σ : tn_M) : tf [] σ (F_X5_sizesOf_32 c4 x1 x3 y0 y1 σ) := by
  unfold F_X5_sizesOf_32
  exact tf_to tn_fr.rf (tf_mo (by decide) (hc4 _ _ _ _))
set_option maxRecDepth 20000 in
theorem fr_X5_sizesOf_4  : ∀ (n : Nat) (x1 : Int32) (x2 : Int32) (x3 : Int32) (σ : tn_M), tf [] σ (F_X5_sizesOf_4 n x1 x2 x3 σ) := by
  intro n
  induction n with
  | zero => intros; exact tf_none
  | succ tn_n ih =>
    intro x1 x2 x3 σ
    rw [F_X5_sizesOf_4]
    refine tf_ite ?_ ?_
    · exact tf_some tn_fr.rf
    · refine tf_ite ?_ ?_
      · refine tf_ck (fun hk1 => ?_)
        exact tf_to tn_fr.rf (tf_mo (by decide) (fr_X5_sizesOf_32 _ (fun _ _ _ _ => ih _ _ _ _) _ _ _ _ _))
      · exact tf_to tn_fr.rf (tf_mo (by decide) (fr_X5_sizesOf_32 _ (fun _ _ _ _ => ih _ _ _ _) _ _ _ _ _))
set_option maxRecDepth 20000 in
theorem fr_X5_sizesOf  (a1 : Int32) (σ : tn_M) : tf [] σ (f_X5_sizesOf a1 σ) := by
  unfold f_X5_sizesOf
  exact tf_to tn_fr.rf (tf_mo (by decide) (fr_X5_sizesOf_4 _ _ _ _ _))
set_option maxRecDepth 20000 in
theorem fr_X5_parts_67  (x1 : Int64) (σ : tn_M) : tf [(5, 23)] σ (F_X5_parts_67 x1 σ) := by
  unfold F_X5_parts_67
  refine tf_m (tn_fr.sl rfl tn_fr.rf) (fun σ1 hσ1 => ?_)
  exact tf_some hσ1
set_option maxRecDepth 20000 in
theorem fr_X5_parts_59 (c10 : Int64 → Int32 → Int32 → Int32 → Int32 → tn_M → Option (Unit × tn_M)) (hc10 : ∀ (x1 : Int64) (x3 : Int32) (x4 : Int32) (x5 : Int32) (x6 : Int32) (σ : tn_M), tf [(5, 23), (47, 999)] σ (c10 x1 x3 x4 x5 x6 σ)) (x1 : Int64) (x3 : Int32) (x4 : Int32) (x5 : Int32) (x6 : Int32) (y1 : Int32) (y2 : Int64) (y3 : Int64) (σ : tn_M) : tf [(5, 23), (47, 999)] σ (F_X5_parts_59 c10 x1 x3 x4 x5 x6 y1 y2 y3 σ) := by
  unfold F_X5_parts_59
  refine tf_ck (fun hk1 => ?_)
  refine tf_m (tn_fr.sl (by rfl) tn_fr.rf) (fun σ1 hσ1 => ?_)
  exact tf_to hσ1 (tf_mo (by decide) (hc10 _ _ _ _ _ _))
set_option maxRecDepth 20000 in
theorem fr_X5_parts_10  : ∀ (n : Nat) (x1 : Int64) (x3 : Int32) (x4 : Int32) (x5 : Int32) (x6 : Int32) (σ : tn_M), tf [(5, 23), (47, 999)] σ (F_X5_parts_10 n x1 x3 x4 x5 x6 σ) := by
  intro n
  induction n with
  | zero => intros; exact tf_none
  | succ tn_n ih =>
    intro x1 x3 x4 x5 x6 σ
    rw [F_X5_parts_10]
    refine tf_ite ?_ ?_
    · exact tf_to tn_fr.rf (tf_mo (by decide) (fr_X5_parts_67 _ _))
    · refine tf_ck (fun hk1 => ?_)
      refine tf_ite ?_ ?_
      · refine tf_dzl ?_
        refine tf_ck (fun hk2 => ?_)
        exact tf_to tn_fr.rf (tf_mo (by decide) (fr_X5_parts_59 _ (fun _ _ _ _ _ _ => ih _ _ _ _ _ _) _ _ _ _ _ _ _ _ _))
      · exact tf_to tn_fr.rf (tf_mo (by decide) (fr_X5_parts_59 _ (fun _ _ _ _ _ _ => ih _ _ _ _ _ _) _ _ _ _ _ _ _ _ _))
set_option maxRecDepth 20000 in
theorem fr_X5_parts  (a1 : Int64) (a3 : Int32) (a4 : Int32) (σ : tn_M) : tf [(5, 23), (47, 999)] σ (f_X5_parts a1 a3 a4 σ) := by
  unfold f_X5_parts
  refine tf_bd (by decide) (fr_X5_sizesOf _ _) tn_fr.rf (fun r2 σ1 hσ1 => ?_)
  exact tf_to hσ1 (tf_mo (by decide) (fr_X5_parts_10 _ _ _ _ _ _ _))
set_option maxRecDepth 20000 in
theorem fr_X5_ones_4  : ∀ (n : Nat) (x1 : Int32) (x2 : Int32) (σ : tn_M), tf [] σ (F_X5_ones_4 n x1 x2 σ) := by
  intro n
  induction n with
  | zero => intros; exact tf_none
  | succ tn_n ih =>
    intro x1 x2 σ
    rw [F_X5_ones_4]
    refine tf_ite ?_ ?_
    · exact tf_some tn_fr.rf
    · refine tf_lt (fun w1 => ?_)
      exact tf_to tn_fr.rf (ih _ _ _)
set_option maxRecDepth 20000 in
theorem fr_X5_ones  (a0 : Int32) (σ : tn_M) : tf [] σ (f_X5_ones a0 σ) := by
  unfold f_X5_ones
  exact tf_to tn_fr.rf (tf_mo (by decide) (fr_X5_ones_4 _ _ _ _))
set_option maxRecDepth 20000 in
theorem fr_X5_buys_182  (x2 : Int32) (x4 : Int32) (x5 : Int32) (x9 : Int64) (x11 : Int32) (σ : tn_M) : tf [(5, 23), (47, 999)] σ (F_X5_buys_182 x2 x4 x5 x9 x11 σ) := by
  unfold F_X5_buys_182
  refine tf_ck (fun hk1 => ?_)
  refine tf_lt (fun w1 => ?_)
  refine tf_lt (fun v2 => ?_)
  refine tf_ite ?_ ?_
  · exact tf_some tn_fr.rf
  · refine tf_bd (by decide) (fr_X5_parts _ _ _ _) tn_fr.rf (fun _ σ3 hσ3 => ?_)
    exact tf_some hσ3
set_option maxRecDepth 20000 in
theorem fr_X5_buys_153  (x2 : Int32) (x4 : Int32) (x5 : Int32) (x6 : Int32) (x9 : Int64) (y0 : Int32) (σ : tn_M) : tf [(5, 23), (47, 999)] σ (F_X5_buys_153 x2 x4 x5 x6 x9 y0 σ) := by
  unfold F_X5_buys_153
  refine tf_ite ?_ ?_
  · exact tf_to tn_fr.rf (tf_mo (by decide) (fr_X5_buys_182 _ _ _ _ _ _))
  · refine tf_bd (by decide) (fr_X5_parts _ _ _ _) tn_fr.rf (fun _ σ1 hσ1 => ?_)
    exact tf_to hσ1 (tf_mo (by decide) (fr_X5_buys_182 _ _ _ _ _ _))
set_option maxRecDepth 20000 in
theorem fr_X5_buys_136  (x2 : Int32) (x4 : Int32) (x5 : Int32) (x6 : Int32) (x9 : Int64) (σ : tn_M) : tf [(5, 23), (47, 999)] σ (F_X5_buys_136 x2 x4 x5 x6 x9 σ) := by
  unfold F_X5_buys_136
  refine tf_ite ?_ ?_
  · exact tf_to tn_fr.rf (tf_mo (by decide) (fr_X5_buys_153 _ _ _ _ _ _ _))
  · refine tf_ck (fun hk1 => ?_)
    exact tf_to tn_fr.rf (tf_mo (by decide) (fr_X5_buys_153 _ _ _ _ _ _ _))
set_option maxRecDepth 20000 in
theorem fr_X5_buys_69  (x2 : Int32) (x3 : Int32) (x4 : Int32) (x5 : Int32) (x6 : Int32) (y0 : Int32) (y1 : Int32) (σ : tn_M) : tf [(5, 23), (47, 999)] σ (F_X5_buys_69 x2 x3 x4 x5 x6 y0 y1 σ) := by
  unfold F_X5_buys_69
  refine tf_ck (fun hk1 => ?_)
  refine tf_ck (fun hk2 => ?_)
  refine tf_lt (fun w1 => ?_)
  refine tf_ite ?_ ?_
  · exact tf_to tn_fr.rf (tf_mo (by decide) (fr_X5_buys_136 _ _ _ _ _ _))
  · refine tf_ite ?_ ?_
    · refine tf_bd (by decide) (fr_X5_parts _ _ _ _) tn_fr.rf (fun _ σ2 hσ2 => ?_)
      exact tf_some hσ2
    · exact tf_to tn_fr.rf (tf_mo (by decide) (fr_X5_buys_136 _ _ _ _ _ _))
set_option maxRecDepth 20000 in
theorem fr_X5_buys  (a1 : Int32) (σ : tn_M) : tf [(5, 23), (47, 999)] σ (f_X5_buys a1 σ) := by
  unfold f_X5_buys
  refine tf_ck (fun hk1 => ?_)
  refine tf_lt (fun w1 => ?_)
  refine tf_ck (fun hk2 => ?_)
  refine tf_lt (fun w2 => ?_)
  refine tf_ck (fun hk3 => ?_)
  refine tf_lt (fun w3 => ?_)
  refine tf_bd (by decide) (fr_X5_openIn _ _) tn_fr.rf (fun r5 σ4 hσ4 => ?_)
  refine tf_bd (by decide) (fr_X5_ones _ _) hσ4 (fun r7 σ6 hσ6 => ?_)
  refine tf_ite ?_ ?_
  · exact tf_to hσ6 (tf_mo (by decide) (fr_X5_buys_69 _ _ _ _ _ _ _ _))
  · exact tf_to hσ6 (tf_mo (by decide) (fr_X5_buys_69 _ _ _ _ _ _ _ _))
set_option maxRecDepth 20000 in
theorem fr_X5_earnAll_154 (c48 : Int32 → tn_M → Option (Unit × tn_M)) (hc48 : ∀ (x1 : Int32) (σ : tn_M), tf [(47, 999)] σ (c48 x1 σ)) (x1 : Int32) (y1 : Int32) (y2 : Int64) (y3 : Int64) (σ : tn_M) : tf [(47, 999)] σ (F_X5_earnAll_154 c48 x1 y1 y2 y3 σ) := by
  unfold F_X5_earnAll_154
  refine tf_ck (fun hk1 => ?_)
  refine tf_m (tn_fr.sl (by rfl) tn_fr.rf) (fun σ1 hσ1 => ?_)
  exact tf_to hσ1 (tf_mo (by decide) (hc48 _ _))
set_option maxRecDepth 20000 in
theorem fr_X5_earnAll_119 (c48 : Int32 → tn_M → Option (Unit × tn_M)) (hc48 : ∀ (x1 : Int32) (σ : tn_M), tf [(47, 999)] σ (c48 x1 σ)) (x1 : Int32) (y0 : Int32) (σ : tn_M) : tf [(47, 999)] σ (F_X5_earnAll_119 c48 x1 y0 σ) := by
  unfold F_X5_earnAll_119
  refine tf_ck (fun hk1 => ?_)
  refine tf_ite ?_ ?_
  · exact tf_to tn_fr.rf (tf_mo (by decide) (fr_X5_earnAll_154 _ hc48 _ _ _ _ _))
  · exact tf_to tn_fr.rf (tf_mo (by decide) (fr_X5_earnAll_154 _ hc48 _ _ _ _ _))
set_option maxRecDepth 20000 in
theorem fr_X5_earnAll_118 (c48 : Int32 → tn_M → Option (Unit × tn_M)) (hc48 : ∀ (x1 : Int32) (σ : tn_M), tf [(47, 999)] σ (c48 x1 σ)) (x1 : Int32) (σ : tn_M) : tf [(47, 999)] σ (F_X5_earnAll_118 c48 x1 σ) := by
  unfold F_X5_earnAll_118
  exact tf_to tn_fr.rf (tf_mo (by decide) (fr_X5_earnAll_119 _ hc48 _ _ _))
set_option maxRecDepth 20000 in
theorem fr_X5_earnAll_48  : ∀ (n : Nat) (x1 : Int32) (σ : tn_M), tf [(47, 999)] σ (F_X5_earnAll_48 n x1 σ) := by
  intro n
  induction n with
  | zero => intros; exact tf_none
  | succ tn_n ih =>
    intro x1 σ
    rw [F_X5_earnAll_48]
    refine tf_ite ?_ ?_
    · exact tf_some tn_fr.rf
    · refine tf_ck (fun hk1 => ?_)
      refine tf_ck (fun hk2 => ?_)
      refine tf_ck (fun hk3 => ?_)
      refine tf_ck (fun hk4 => ?_)
      refine tf_m (tn_fr.sl (by rfl) tn_fr.rf) (fun σ1 hσ1 => ?_)
      refine tf_ite ?_ ?_
      · exact tf_to hσ1 (tf_mo (by decide) (fr_X5_earnAll_118 _ (fun _ _ => ih _ _) _ _))
      · refine tf_bd (by decide) (fr_X5_isBound _ _) hσ1 (fun r3 σ2 hσ2 => ?_)
        refine tf_ite ?_ ?_
        · exact tf_to hσ2 (tf_mo (by decide) (fr_X5_earnAll_118 _ (fun _ _ => ih _ _) _ _))
        · refine tf_ck (fun hk5 => ?_)
          refine tf_ite ?_ ?_
          · exact tf_to hσ2 (tf_mo (by decide) (fr_X5_earnAll_118 _ (fun _ _ => ih _ _) _ _))
          · exact tf_to hσ2 (tf_mo (by decide) (fr_X5_earnAll_119 _ (fun _ _ => ih _ _) _ _ _))
set_option maxRecDepth 20000 in
theorem fr_X5_earnAll_46   (σ : tn_M) : tf [(47, 999)] σ (F_X5_earnAll_46 σ) := by
  unfold F_X5_earnAll_46
  exact tf_to tn_fr.rf (tf_mo (by decide) (fr_X5_earnAll_48 _ _ _))
set_option maxRecDepth 20000 in
theorem fr_X5_earnAll_27  : ∀ (n : Nat) (x1 : Int32) (σ : tn_M), tf [(5, 23), (47, 999)] σ (F_X5_earnAll_27 n x1 σ) := by
  intro n
  induction n with
  | zero => intros; exact tf_none
  | succ tn_n ih =>
    intro x1 σ
    rw [F_X5_earnAll_27]
    refine tf_ite ?_ ?_
    · exact tf_to tn_fr.rf (tf_mo (by decide) (fr_X5_earnAll_46 _))
    · refine tf_bd (by decide) (fr_X5_buys _ _) tn_fr.rf (fun _ σ1 hσ1 => ?_)
      exact tf_to hσ1 (ih _ _)
set_option maxRecDepth 20000 in
theorem fr_X5_earnAll_25   (σ : tn_M) : tf [(5, 23), (47, 999)] σ (F_X5_earnAll_25 σ) := by
  unfold F_X5_earnAll_25
  exact tf_to tn_fr.rf (tf_mo (by decide) (fr_X5_earnAll_27 _ _ _))
set_option maxRecDepth 20000 in
theorem fr_X5_earnAll_7  : ∀ (n : Nat) (x1 : Int32) (σ : tn_M), tf [(5, 23), (47, 999)] σ (F_X5_earnAll_7 n x1 σ) := by
  intro n
  induction n with
  | zero => intros; exact tf_none
  | succ tn_n ih =>
    intro x1 σ
    rw [F_X5_earnAll_7]
    refine tf_ite ?_ ?_
    · exact tf_to tn_fr.rf (tf_mo (by decide) (fr_X5_earnAll_25 _))
    · refine tf_ck (fun hk1 => ?_)
      refine tf_m (tn_fr.sl (by rfl) tn_fr.rf) (fun σ1 hσ1 => ?_)
      exact tf_to hσ1 (ih _ _)
set_option maxRecDepth 20000 in
theorem fr_X5_earnAll   (σ : tn_M) : tf [(5, 23), (47, 999)] σ (f_X5_earnAll σ) := by
  unfold f_X5_earnAll
  refine tf_m (tn_fr.sl rfl tn_fr.rf) (fun σ1 hσ1 => ?_)
  exact tf_to hσ1 (tf_mo (by decide) (fr_X5_earnAll_7 _ _ _))
set_option maxRecDepth 20000 in
theorem fr_X5_earnsBy  (a1 : Int32) (a2 : Int32) (σ : tn_M) : tf [(5, 23), (44, 999), (47, 999)] σ (f_X5_earnsBy a1 a2 σ) := by
  unfold f_X5_earnsBy
  refine tf_ck (fun hk1 => ?_)
  refine tf_lt (fun w1 => ?_)
  refine tf_ck (fun hk2 => ?_)
  refine tf_m (tn_fr.si (by rfl) tn_fr.rf) (fun σ2 hσ2 => ?_)
  refine tf_bd (by decide) (fr_X5_earnAll _) hσ2 (fun _ σ3 hσ3 => ?_)
  refine tf_ck (fun hk3 => ?_)
  refine tf_m (tn_fr.si (by rfl) hσ3) (fun σ4 hσ4 => ?_)
  refine tf_ck (fun hk4 => ?_)
  exact tf_some hσ4
set_option maxRecDepth 20000 in
theorem fr_X5_together_8  : ∀ (n : Nat) (x1 : Int64) (x3 : Int32) (σ : tn_M), tf [] σ (F_X5_together_8 n x1 x3 σ) := by
  intro n
  induction n with
  | zero => intros; exact tf_none
  | succ tn_n ih =>
    intro x1 x3 σ
    rw [F_X5_together_8]
    refine tf_ite ?_ ?_
    · exact tf_some tn_fr.rf
    · refine tf_ck (fun hk1 => ?_)
      refine tf_lt (fun w1 => ?_)
      exact tf_to tn_fr.rf (ih _ _ _)
set_option maxRecDepth 20000 in
theorem fr_X5_together   (σ : tn_M) : tf [(5, 23), (47, 999)] σ (f_X5_together σ) := by
  unfold f_X5_together
  refine tf_bd (by decide) (fr_X5_earnAll _) tn_fr.rf (fun _ σ1 hσ1 => ?_)
  exact tf_to hσ1 (tf_mo (by decide) (fr_X5_together_8 _ _ _ _))
set_option maxRecDepth 20000 in
theorem fr_X5_answerOf_30  : ∀ (n : Nat) (x1 : Int32) (x2 : Int32) (x3 : Int32) (x4 : Int64) (x6 : Int32) (σ : tn_M), tf [(5, 23), (44, 999), (47, 999)] σ (F_X5_answerOf_30 n x1 x2 x3 x4 x6 σ) := by
  intro n
  induction n with
  | zero => intros; exact tf_none
  | succ tn_n ih =>
    intro x1 x2 x3 x4 x6 σ
    rw [F_X5_answerOf_30]
    refine tf_ite ?_ ?_
    · exact tf_some tn_fr.rf
    · refine tf_bd (by decide) (fr_X5_earnsBy _ _ _) tn_fr.rf (fun r2 σ1 hσ1 => ?_)
      refine tf_lt (fun v3 => ?_)
      refine tf_lt (fun v4 => ?_)
      exact tf_to hσ1 (ih _ _ _ _ _ _)
set_option maxRecDepth 20000 in
theorem fr_X5_answerOf  (a1 : Int32) (σ : tn_M) : tf [(5, 23), (44, 999), (47, 999)] σ (f_X5_answerOf a1 σ) := by
  unfold f_X5_answerOf
  refine tf_bd (by decide) (fr_X5_isBound _ _) tn_fr.rf (fun r2 σ1 hσ1 => ?_)
  refine tf_lt (fun v3 => ?_)
  refine tf_bd (by decide) (fr_X5_earnsBy _ _ _) hσ1 (fun r5 σ4 hσ4 => ?_)
  exact tf_to hσ4 (tf_mo (by decide) (fr_X5_answerOf_30 _ _ _ _ _ _ _))
set_option maxRecDepth 20000 in
theorem fr_X5_earnsOf  (a1 : Int32) (a2 : Int32) (σ : tn_M) : tf [(5, 7), (5, 8), (5, 11), (5, 18), (5, 19), (5, 20), (5, 23), (38, 999), (39, 999), (40, 999), (44, 999), (45, 999), (46, 999), (47, 999)] σ (f_X5_earnsOf a1 a2 σ) := by
  unfold f_X5_earnsOf
  refine tf_bd (by decide) (fr_X5_tries _) tn_fr.rf (fun _ σ1 hσ1 => ?_)
  refine tf_bd (by decide) (fr_X5_earnAll _) hσ1 (fun _ σ2 hσ2 => ?_)
  refine tf_ck (fun hk1 => ?_)
  refine tf_bd (by decide) (fr_X5_part _ _ _ _) hσ2 (fun r4 σ3 hσ3 => ?_)
  exact tf_some hσ3
set_option maxRecDepth 20000 in
theorem fr_X5_earns_24   (σ : tn_M) : tf [] σ (F_X5_earns_24 σ) := by
  unfold F_X5_earns_24
  refine tf_bd (by decide) (fr_X5_no _ _) tn_fr.rf (fun r2 σ1 hσ1 => ?_)
  exact tf_some hσ1
set_option maxRecDepth 20000 in
theorem fr_X5_earns  (a1 : Int32) (a2 : Int32) (σ : tn_M) : tf [(5, 7), (5, 8), (5, 11), (5, 18), (5, 19), (5, 20), (5, 23), (38, 999), (39, 999), (40, 999), (44, 999), (45, 999), (46, 999), (47, 999)] σ (f_X5_earns a1 a2 σ) := by
  unfold f_X5_earns
  refine tf_bd (by decide) (fr_X5_isShop _ _) tn_fr.rf (fun r2 σ1 hσ1 => ?_)
  refine tf_ite ?_ ?_
  · exact tf_to hσ1 (tf_mo (by decide) (fr_X5_earns_24 _))
  · refine tf_bd (by decide) (fr_X5_isTwo _ _) hσ1 (fun r4 σ3 hσ3 => ?_)
    refine tf_ite ?_ ?_
    · exact tf_to hσ3 (tf_mo (by decide) (fr_X5_earns_24 _))
    · refine tf_bd (by decide) (fr_X5_earnsOf _ _ _) hσ3 (fun r6 σ5 hσ5 => ?_)
      exact tf_some hσ5
set_option maxRecDepth 20000 in
theorem fr_X5_allOf  (a1 : Int32) (a2 : Int32) (σ : tn_M) : tf [(5, 7), (5, 8), (5, 11), (5, 18), (5, 19), (5, 20), (5, 23), (38, 999), (39, 999), (40, 999), (44, 999), (45, 999), (46, 999), (47, 999)] σ (f_X5_allOf a1 a2 σ) := by
  unfold f_X5_allOf
  refine tf_bd (by decide) (fr_X5_tries _) tn_fr.rf (fun _ σ1 hσ1 => ?_)
  refine tf_bd (by decide) (fr_X5_together _) hσ1 (fun r3 σ2 hσ2 => ?_)
  refine tf_lt (fun v4 => ?_)
  refine tf_bd (by decide) (fr_X5_part _ _ _ _) hσ2 (fun r6 σ5 hσ5 => ?_)
  exact tf_some hσ5
set_option maxRecDepth 20000 in
theorem fr_X5_all_23   (σ : tn_M) : tf [] σ (F_X5_all_23 σ) := by
  unfold F_X5_all_23
  refine tf_bd (by decide) (fr_X5_no _ _) tn_fr.rf (fun r2 σ1 hσ1 => ?_)
  exact tf_some hσ1
set_option maxRecDepth 20000 in
theorem fr_X5_all  (a1 : Int32) (a2 : Int32) (σ : tn_M) : tf [(5, 7), (5, 8), (5, 11), (5, 18), (5, 19), (5, 20), (5, 23), (38, 999), (39, 999), (40, 999), (44, 999), (45, 999), (46, 999), (47, 999)] σ (f_X5_all a1 a2 σ) := by
  unfold f_X5_all
  refine tf_bd (by decide) (fr_X5_isTwo _ _) tn_fr.rf (fun r2 σ1 hσ1 => ?_)
  refine tf_ite ?_ ?_
  · exact tf_to hσ1 (tf_mo (by decide) (fr_X5_all_23 _))
  · refine tf_bd (by decide) (fr_X5_isTwo _ _) hσ1 (fun r4 σ3 hσ3 => ?_)
    refine tf_ite ?_ ?_
    · exact tf_to hσ3 (tf_mo (by decide) (fr_X5_all_23 _))
    · refine tf_bd (by decide) (fr_X5_allOf _ _ _) hσ3 (fun r6 σ5 hσ5 => ?_)
      exact tf_some hσ5
set_option maxRecDepth 20000 in
theorem fr_X5_answerNow  (a1 : Int32) (σ : tn_M) : tf [(5, 7), (5, 8), (5, 11), (5, 18), (5, 19), (5, 20), (5, 23), (38, 999), (39, 999), (40, 999), (44, 999), (45, 999), (46, 999), (47, 999)] σ (f_X5_answerNow a1 σ) := by
  unfold f_X5_answerNow
  refine tf_bd (by decide) (fr_X5_tries _) tn_fr.rf (fun _ σ1 hσ1 => ?_)
  refine tf_bd (by decide) (fr_X5_answerOf _ _) hσ1 (fun r3 σ2 hσ2 => ?_)
  exact tf_some hσ2
set_option maxRecDepth 20000 in
theorem fr_X5_answer  (a1 : Int32) (σ : tn_M) : tf [(5, 7), (5, 8), (5, 11), (5, 18), (5, 19), (5, 20), (5, 23), (38, 999), (39, 999), (40, 999), (44, 999), (45, 999), (46, 999), (47, 999)] σ (f_X5_answer a1 σ) := by
  unfold f_X5_answer
  refine tf_bd (by decide) (fr_X5_isShop _ _) tn_fr.rf (fun r2 σ1 hσ1 => ?_)
  refine tf_ite ?_ ?_
  · exact tf_some hσ1
  · refine tf_bd (by decide) (fr_X5_answerNow _ _) hσ1 (fun r4 σ3 hσ3 => ?_)
    exact tf_some hσ3
set_option maxRecDepth 20000 in
theorem fr_X5_roundGoes_84 (c4 : Int32 → Int32 → tn_M → Option (Int32 × tn_M)) (hc4 : ∀ (x1 : Int32) (x2 : Int32) (σ : tn_M), tf [(5, 23), (44, 999), (47, 999)] σ (c4 x1 x2 σ)) (x2 : Int32) (σ : tn_M) : tf [(5, 23), (44, 999), (47, 999)] σ (F_X5_roundGoes_84 c4 x2 σ) := by
  unfold F_X5_roundGoes_84
  exact tf_to tn_fr.rf (tf_mo (by decide) (hc4 _ _ _))
set_option maxRecDepth 20000 in
theorem fr_X5_roundGoes_74 (c4 : Int32 → Int32 → tn_M → Option (Int32 × tn_M)) (hc4 : ∀ (x1 : Int32) (x2 : Int32) (σ : tn_M), tf [(5, 23), (44, 999), (47, 999)] σ (c4 x1 x2 σ)) (x1 : Int32) (x2 : Int32) (x4 : Int32) (y1 : Int32) (y2 : Int32) (σ : tn_M) : tf [(5, 23), (44, 999), (47, 999)] σ (F_X5_roundGoes_74 c4 x1 x2 x4 y1 y2 σ) := by
  unfold F_X5_roundGoes_74
  refine tf_ck (fun hk1 => ?_)
  refine tf_m (tn_fr.si (by rfl) tn_fr.rf) (fun σ1 hσ1 => ?_)
  refine tf_ite ?_ ?_
  · refine tf_ite ?_ ?_
    · exact tf_to hσ1 (tf_mo (by decide) (hc4 _ _ _))
    · exact tf_to hσ1 (tf_mo (by decide) (fr_X5_roundGoes_84 _ hc4 _ _))
  · exact tf_to hσ1 (tf_mo (by decide) (fr_X5_roundGoes_84 _ hc4 _ _))
set_option maxRecDepth 20000 in
theorem fr_X5_roundGoes_4  : ∀ (n : Nat) (x1 : Int32) (x2 : Int32) (σ : tn_M), tf [(5, 23), (44, 999), (47, 999)] σ (F_X5_roundGoes_4 n x1 x2 σ) := by
  intro n
  induction n with
  | zero => intros; exact tf_none
  | succ tn_n ih =>
    intro x1 x2 σ
    rw [F_X5_roundGoes_4]
    refine tf_ite ?_ ?_
    · exact tf_zr tn_fr.rf
    · refine tf_ite ?_ ?_
      · exact tf_to tn_fr.rf (ih _ _ _)
      · refine tf_bd (by decide) (fr_X5_answerOf _ _) tn_fr.rf (fun r2 σ1 hσ1 => ?_)
        refine tf_bd (by decide) (fr_X5_earnsBy _ _ _) hσ1 (fun r4 σ3 hσ3 => ?_)
        refine tf_ck (fun hk1 => ?_)
        refine tf_bd (by decide) (fr_X5_earnsBy _ _ _) hσ3 (fun r6 σ5 hσ5 => ?_)
        refine tf_lt (fun v7 => ?_)
        refine tf_ite ?_ ?_
        · refine tf_ck (fun hk2 => ?_)
          exact tf_to hσ5 (tf_mo (by decide) (fr_X5_roundGoes_74 _ (fun _ _ _ => ih _ _ _) _ _ _ _ _ _))
        · exact tf_to hσ5 (tf_mo (by decide) (fr_X5_roundGoes_74 _ (fun _ _ _ => ih _ _ _) _ _ _ _ _ _))
set_option maxRecDepth 20000 in
theorem fr_X5_roundGoes   (σ : tn_M) : tf [(5, 23), (44, 999), (47, 999)] σ (f_X5_roundGoes σ) := by
  unfold f_X5_roundGoes
  exact tf_to tn_fr.rf (tf_mo (by decide) (fr_X5_roundGoes_4 _ _ _ _))
set_option maxRecDepth 20000 in
theorem fr_X5_runsDown_5  : ∀ (n : Nat)  (σ : tn_M), tf [(5, 23), (5, 24), (44, 999), (47, 999)] σ (F_X5_runsDown_5 n σ) := by
  intro n
  induction n with
  | zero => intros; exact tf_none
  | succ tn_n ih =>
    intro  σ
    rw [F_X5_runsDown_5]
    refine tf_bd (by decide) (fr_X5_roundGoes _) tn_fr.rf (fun r2 σ1 hσ1 => ?_)
    refine tf_ite ?_ ?_
    · exact tf_some hσ1
    · refine tf_m (tn_fr.si rfl hσ1) (fun σ3 hσ3 => ?_)
      refine tf_ite ?_ ?_
      · exact tf_some hσ3
      · exact tf_to hσ3 (ih _)
set_option maxRecDepth 20000 in
theorem fr_X5_runsDown   (σ : tn_M) : tf [(5, 23), (5, 24), (44, 999), (47, 999)] σ (f_X5_runsDown σ) := by
  unfold f_X5_runsDown
  refine tf_m (tn_fr.si rfl tn_fr.rf) (fun σ1 hσ1 => ?_)
  exact tf_to hσ1 (tf_mo (by decide) (fr_X5_runsDown_5 _ _))
set_option maxRecDepth 20000 in
theorem fr_X5_restOf  (a1 : Int32) (σ : tn_M) : tf [(5, 7), (5, 8), (5, 11), (5, 18), (5, 19), (5, 20), (5, 23), (5, 24), (38, 999), (39, 999), (40, 999), (44, 999), (45, 999), (46, 999), (47, 999)] σ (f_X5_restOf a1 σ) := by
  unfold f_X5_restOf
  refine tf_bd (by decide) (fr_X5_tries _) tn_fr.rf (fun _ σ1 hσ1 => ?_)
  refine tf_bd (by decide) (fr_X5_runsDown _) hσ1 (fun r3 σ2 hσ2 => ?_)
  refine tf_ite ?_ ?_
  · exact tf_some hσ2
  · refine tf_ite ?_ ?_
    · exact tf_some hσ2
    · refine tf_ck (fun hk1 => ?_)
      exact tf_some hσ2
set_option maxRecDepth 20000 in
theorem fr_X5_rest_13  (x1 : Int32) (σ : tn_M) : tf [(5, 7), (5, 8), (5, 11), (5, 18), (5, 19), (5, 20), (5, 23), (5, 24), (38, 999), (39, 999), (40, 999), (44, 999), (45, 999), (46, 999), (47, 999)] σ (F_X5_rest_13 x1 σ) := by
  unfold F_X5_rest_13
  refine tf_bd (by decide) (fr_X5_restOf _ _) tn_fr.rf (fun r2 σ1 hσ1 => ?_)
  exact tf_some hσ1
set_option maxRecDepth 20000 in
theorem fr_X5_rest  (a1 : Int32) (σ : tn_M) : tf [(5, 7), (5, 8), (5, 11), (5, 18), (5, 19), (5, 20), (5, 23), (5, 24), (38, 999), (39, 999), (40, 999), (44, 999), (45, 999), (46, 999), (47, 999)] σ (f_X5_rest a1 σ) := by
  unfold f_X5_rest
  refine tf_ite ?_ ?_
  · exact tf_to tn_fr.rf (tf_mo (by decide) (fr_X5_rest_13 _ _))
  · refine tf_bd (by decide) (fr_X5_isShop _ _) tn_fr.rf (fun r2 σ1 hσ1 => ?_)
    refine tf_ite ?_ ?_
    · exact tf_some hσ1
    · exact tf_to hσ1 (tf_mo (by decide) (fr_X5_rest_13 _ _))
set_option maxRecDepth 20000 in
theorem fr_X5_isStill_25 (c2 : Int32 → tn_M → Option (Int32 × tn_M)) (hc2 : ∀ (x1 : Int32) (σ : tn_M), tf [(5, 23), (44, 999), (47, 999)] σ (c2 x1 σ)) : ∀ (n : Nat) (x1 : Int32) (x2 : Int64) (x4 : Int32) (σ : tn_M), tf [(5, 23), (44, 999), (47, 999)] σ (F_X5_isStill_25 c2 n x1 x2 x4 σ) := by
  intro n
  induction n with
  | zero => intros; exact tf_none
  | succ tn_n ih =>
    intro x1 x2 x4 σ
    rw [F_X5_isStill_25]
    refine tf_ite ?_ ?_
    · exact tf_to tn_fr.rf (tf_mo (by decide) (hc2 _ _))
    · refine tf_bd (by decide) (fr_X5_earnsBy _ _ _) tn_fr.rf (fun r2 σ1 hσ1 => ?_)
      refine tf_ite ?_ ?_
      · exact tf_to hσ1 (ih _ _ _ _)
      · exact tf_some hσ1
set_option maxRecDepth 20000 in
theorem fr_X5_isStill_2  : ∀ (n : Nat) (x1 : Int32) (σ : tn_M), tf [(5, 23), (44, 999), (47, 999)] σ (F_X5_isStill_2 n x1 σ) := by
  intro n
  induction n with
  | zero => intros; exact tf_none
  | succ tn_n ih =>
    intro x1 σ
    rw [F_X5_isStill_2]
    refine tf_ite ?_ ?_
    · exact tf_some tn_fr.rf
    · refine tf_ck (fun hk1 => ?_)
      refine tf_bd (by decide) (fr_X5_earnsBy _ _ _) tn_fr.rf (fun r2 σ1 hσ1 => ?_)
      exact tf_to hσ1 (tf_mo (by decide) (fr_X5_isStill_25 _ (fun _ _ => ih _ _) _ _ _ _ _))
set_option maxRecDepth 20000 in
theorem fr_X5_isStill   (σ : tn_M) : tf [(5, 23), (44, 999), (47, 999)] σ (f_X5_isStill σ) := by
  unfold f_X5_isStill
  exact tf_to tn_fr.rf (tf_mo (by decide) (fr_X5_isStill_2 _ _ _))
set_option maxRecDepth 20000 in
theorem fr_X5_lays_9  : ∀ (n : Nat) (x2 : Int32) (x3 : Int32) (σ : tn_M), tf [(44, 999)] σ (F_X5_lays_9 n x2 x3 σ) := by
  intro n
  induction n with
  | zero => intros; exact tf_none
  | succ tn_n ih =>
    intro x2 x3 σ
    rw [F_X5_lays_9]
    refine tf_ite ?_ ?_
    · exact tf_some tn_fr.rf
    · refine tf_ck (fun hk1 => ?_)
      refine tf_m (tn_fr.si (by rfl) tn_fr.rf) (fun σ1 hσ1 => ?_)
      exact tf_to hσ1 (ih _ _ _)
set_option maxRecDepth 20000 in
theorem fr_X5_lays  (a1 : Int32) (σ : tn_M) : tf [(44, 999)] σ (f_X5_lays a1 σ) := by
  unfold f_X5_lays
  refine tf_lt (fun w1 => ?_)
  exact tf_to tn_fr.rf (tf_mo (by decide) (fr_X5_lays_9 _ _ _ _))
set_option maxRecDepth 20000 in
theorem fr_X5_stillOf_56  (x1 : Int32) (x3 : Int32) (σ : tn_M) : tf [] σ (F_X5_stillOf_56 x1 x3 σ) := by
  unfold F_X5_stillOf_56
  refine tf_lt (fun v1 => ?_)
  exact tf_some tn_fr.rf
set_option maxRecDepth 20000 in
theorem fr_X5_stillOf_9  : ∀ (n : Nat) (x1 : Int32) (x2 : Int32) (x3 : Int32) (x4 : Int32) (σ : tn_M), tf [(5, 23), (44, 999), (47, 999)] σ (F_X5_stillOf_9 n x1 x2 x3 x4 σ) := by
  intro n
  induction n with
  | zero => intros; exact tf_none
  | succ tn_n ih =>
    intro x1 x2 x3 x4 σ
    rw [F_X5_stillOf_9]
    refine tf_ite ?_ ?_
    · exact tf_to tn_fr.rf (tf_mo (by decide) (fr_X5_stillOf_56 _ _ _))
    · refine tf_bd (by decide) (fr_X5_lays _ _) tn_fr.rf (fun _ σ1 hσ1 => ?_)
      refine tf_bd (by decide) (fr_X5_isStill _) hσ1 (fun r3 σ2 hσ2 => ?_)
      refine tf_ite ?_ ?_
      · exact tf_to hσ2 (ih _ _ _ _ _)
      · refine tf_ite ?_ ?_
        · refine tf_ck (fun hk1 => ?_)
          exact tf_some hσ2
        · exact tf_to hσ2 (ih _ _ _ _ _)
set_option maxRecDepth 20000 in
theorem fr_X5_stillOf  (a1 : Int32) (a2 : Int32) (σ : tn_M) : tf [(5, 7), (5, 8), (5, 11), (5, 18), (5, 19), (5, 20), (5, 23), (38, 999), (39, 999), (40, 999), (44, 999), (45, 999), (46, 999), (47, 999)] σ (f_X5_stillOf a1 a2 σ) := by
  unfold f_X5_stillOf
  refine tf_bd (by decide) (fr_X5_tries _) tn_fr.rf (fun _ σ1 hσ1 => ?_)
  exact tf_to hσ1 (tf_mo (by decide) (fr_X5_stillOf_9 _ _ _ _ _ _))
set_option maxRecDepth 20000 in
theorem fr_X5_still_35  (x1 : Int32) (x2 : Int32) (y0 : Int32) (σ : tn_M) : tf [(5, 7), (5, 8), (5, 11), (5, 18), (5, 19), (5, 20), (5, 23), (38, 999), (39, 999), (40, 999), (44, 999), (45, 999), (46, 999), (47, 999)] σ (F_X5_still_35 x1 x2 y0 σ) := by
  unfold F_X5_still_35
  refine tf_ite ?_ ?_
  · exact tf_some tn_fr.rf
  · refine tf_bd (by decide) (fr_X5_stillOf _ _ _) tn_fr.rf (fun r2 σ1 hσ1 => ?_)
    exact tf_some hσ1
set_option maxRecDepth 20000 in
theorem fr_X5_still_34  (x1 : Int32) (x2 : Int32) (σ : tn_M) : tf [(5, 7), (5, 8), (5, 11), (5, 18), (5, 19), (5, 20), (5, 23), (38, 999), (39, 999), (40, 999), (44, 999), (45, 999), (46, 999), (47, 999)] σ (F_X5_still_34 x1 x2 σ) := by
  unfold F_X5_still_34
  exact tf_to tn_fr.rf (tf_mo (by decide) (fr_X5_still_35 _ _ _ _))
set_option maxRecDepth 20000 in
theorem fr_X5_still  (a1 : Int32) (a2 : Int32) (σ : tn_M) : tf [(5, 7), (5, 8), (5, 11), (5, 18), (5, 19), (5, 20), (5, 23), (38, 999), (39, 999), (40, 999), (44, 999), (45, 999), (46, 999), (47, 999)] σ (f_X5_still a1 a2 σ) := by
  unfold f_X5_still
  refine tf_ite ?_ ?_
  · refine tf_ite ?_ ?_
    · exact tf_to tn_fr.rf (tf_mo (by decide) (fr_X5_still_35 _ _ _ _))
    · exact tf_to tn_fr.rf (tf_mo (by decide) (fr_X5_still_35 _ _ _ _))
  · refine tf_ite ?_ ?_
    · exact tf_to tn_fr.rf (tf_mo (by decide) (fr_X5_still_34 _ _ _))
    · refine tf_bd (by decide) (fr_X5_isShop _ _) tn_fr.rf (fun r2 σ1 hσ1 => ?_)
      refine tf_ite ?_ ?_
      · exact tf_to hσ1 (tf_mo (by decide) (fr_X5_still_34 _ _ _))
      · exact tf_to hσ1 (tf_mo (by decide) (fr_X5_still_35 _ _ _ _))
set_option maxRecDepth 20000 in
theorem fr_X5_findBest_15  : ∀ (n : Nat) (x1 : Int32) (x2 : Int32) (x3 : Int32) (σ : tn_M), tf [(5, 23), (5, 25), (44, 999), (47, 999)] σ (F_X5_findBest_15 n x1 x2 x3 σ) := by
  intro n
  induction n with
  | zero => intros; exact tf_none
  | succ tn_n ih =>
    intro x1 x2 x3 σ
    rw [F_X5_findBest_15]
    refine tf_ite ?_ ?_
    · exact tf_some tn_fr.rf
    · refine tf_bd (by decide) (fr_X5_lays _ _) tn_fr.rf (fun _ σ1 hσ1 => ?_)
      refine tf_bd (by decide) (fr_X5_together _) hσ1 (fun r3 σ2 hσ2 => ?_)
      refine tf_lt (fun v4 => ?_)
      refine tf_lt (fun v5 => ?_)
      refine tf_lt (fun v6 => ?_)
      refine tf_m (tn_fr.sl rfl hσ2) (fun σ7 hσ7 => ?_)
      exact tf_to hσ7 (ih _ _ _ _)
set_option maxRecDepth 20000 in
theorem fr_X5_findBest  (a1 : Int32) (σ : tn_M) : tf [(5, 7), (5, 8), (5, 11), (5, 18), (5, 19), (5, 20), (5, 23), (5, 25), (38, 999), (39, 999), (40, 999), (44, 999), (45, 999), (46, 999), (47, 999)] σ (f_X5_findBest a1 σ) := by
  unfold f_X5_findBest
  refine tf_bd (by decide) (fr_X5_tries _) tn_fr.rf (fun _ σ1 hσ1 => ?_)
  refine tf_m (tn_fr.sl rfl hσ1) (fun σ2 hσ2 => ?_)
  exact tf_to hσ2 (tf_mo (by decide) (fr_X5_findBest_15 _ _ _ _ _))
set_option maxRecDepth 20000 in
theorem fr_X5_bestOf  (a1 : Int32) (a2 : Int32) (σ : tn_M) : tf [(5, 7), (5, 8), (5, 11), (5, 18), (5, 19), (5, 20), (5, 23), (5, 25), (38, 999), (39, 999), (40, 999), (44, 999), (45, 999), (46, 999), (47, 999)] σ (f_X5_bestOf a1 a2 σ) := by
  unfold f_X5_bestOf
  refine tf_bd (by decide) (fr_X5_findBest _ _) tn_fr.rf (fun r2 σ1 hσ1 => ?_)
  refine tf_bd (by decide) (fr_X5_lays _ _) hσ1 (fun _ σ3 hσ3 => ?_)
  refine tf_ck (fun hk1 => ?_)
  exact tf_some hσ3
set_option maxRecDepth 20000 in
theorem fr_X5_best  (a1 : Int32) (a2 : Int32) (σ : tn_M) : tf [(5, 7), (5, 8), (5, 11), (5, 18), (5, 19), (5, 20), (5, 23), (5, 25), (38, 999), (39, 999), (40, 999), (44, 999), (45, 999), (46, 999), (47, 999)] σ (f_X5_best a1 a2 σ) := by
  unfold f_X5_best
  refine tf_bd (by decide) (fr_X5_isTwo _ _) tn_fr.rf (fun r2 σ1 hσ1 => ?_)
  refine tf_ite ?_ ?_
  · exact tf_some hσ1
  · refine tf_bd (by decide) (fr_X5_isShop _ _) hσ1 (fun r4 σ3 hσ3 => ?_)
    refine tf_ite ?_ ?_
    · exact tf_some hσ3
    · refine tf_bd (by decide) (fr_X5_bestOf _ _ _) hσ3 (fun r6 σ5 hσ5 => ?_)
      exact tf_some hσ5
set_option maxRecDepth 20000 in
theorem fr_X5_loss  (a1 : Int32) (σ : tn_M) : tf [(5, 7), (5, 8), (5, 11), (5, 18), (5, 19), (5, 20), (5, 23), (5, 25), (38, 999), (39, 999), (40, 999), (44, 999), (45, 999), (46, 999), (47, 999)] σ (f_X5_loss a1 σ) := by
  unfold f_X5_loss
  refine tf_bd (by decide) (fr_X5_isTwo _ _) tn_fr.rf (fun r2 σ1 hσ1 => ?_)
  refine tf_ite ?_ ?_
  · refine tf_bd (by decide) (fr_X5_no _ _) hσ1 (fun r11 σ10 hσ10 => ?_)
    exact tf_some hσ10
  · refine tf_bd (by decide) (fr_X5_findBest _ _) hσ1 (fun r4 σ3 hσ3 => ?_)
    refine tf_bd (by decide) (fr_X5_tries _) hσ3 (fun _ σ5 hσ5 => ?_)
    refine tf_bd (by decide) (fr_X5_together _) hσ5 (fun r7 σ6 hσ6 => ?_)
    refine tf_bd (by decide) (fr_X5_part _ _ _ _) hσ6 (fun r9 σ8 hσ8 => ?_)
    exact tf_some hσ8
set_option maxRecDepth 20000 in
theorem fr_X5_leastNow_153  : ∀ (n : Nat) (x2 : Int64) (x4 : Int32) (σ : tn_M), tf [] σ (F_X5_leastNow_153 n x2 x4 σ) := by
  intro n
  induction n with
  | zero => intros; exact tf_none
  | succ tn_n ih =>
    intro x2 x4 σ
    rw [F_X5_leastNow_153]
    refine tf_ite ?_ ?_
    · exact tf_some tn_fr.rf
    · refine tf_ite ?_ ?_
      · exact tf_to tn_fr.rf (ih _ _ _)
      · exact tf_some tn_fr.rf
set_option maxRecDepth 20000 in
theorem fr_X5_leastNow_150  (x2 : Int64) (σ : tn_M) : tf [] σ (F_X5_leastNow_150 x2 σ) := by
  unfold F_X5_leastNow_150
  exact tf_to tn_fr.rf (tf_mo (by decide) (fr_X5_leastNow_153 _ _ _ _))
set_option maxRecDepth 20000 in
theorem fr_X5_leastNow_85 (c71 : Int32 → Int64 → Int32 → tn_M → Option (Int32 × tn_M)) (hc71 : ∀ (x1 : Int32) (x2 : Int64) (x4 : Int32) (σ : tn_M), tf [(5, 23), (44, 999), (47, 999)] σ (c71 x1 x2 x4 σ)) : ∀ (n : Nat) (x1 : Int32) (x2 : Int64) (x4 : Int32) (x5 : Int32) (σ : tn_M), tf [(5, 23), (44, 999), (47, 999)] σ (F_X5_leastNow_85 c71 n x1 x2 x4 x5 σ) := by
  intro n
  induction n with
  | zero => intros; exact tf_none
  | succ tn_n ih =>
    intro x1 x2 x4 x5 σ
    rw [F_X5_leastNow_85]
    refine tf_ite ?_ ?_
    · exact tf_to tn_fr.rf (tf_mo (by decide) (hc71 _ _ _ _))
    · refine tf_bd (by decide) (fr_X5_isBound _ _) tn_fr.rf (fun r2 σ1 hσ1 => ?_)
      refine tf_ite ?_ ?_
      · exact tf_to hσ1 (tf_mo (by decide) (hc71 _ _ _ _))
      · refine tf_bd (by decide) (fr_X5_earnsBy _ _ _) hσ1 (fun r4 σ3 hσ3 => ?_)
        refine tf_ck (fun hk1 => ?_)
        refine tf_bd (by decide) (fr_X5_earnsBy _ _ _) hσ3 (fun r6 σ5 hσ5 => ?_)
        refine tf_lt (fun v7 => ?_)
        exact tf_to hσ5 (ih _ _ _ _ _)
set_option maxRecDepth 20000 in
theorem fr_X5_leastNow_71  : ∀ (n : Nat) (x1 : Int32) (x2 : Int64) (x4 : Int32) (σ : tn_M), tf [(5, 23), (44, 999), (47, 999)] σ (F_X5_leastNow_71 n x1 x2 x4 σ) := by
  intro n
  induction n with
  | zero => intros; exact tf_none
  | succ tn_n ih =>
    intro x1 x2 x4 σ
    rw [F_X5_leastNow_71]
    refine tf_ite ?_ ?_
    · exact tf_to tn_fr.rf (tf_mo (by decide) (fr_X5_leastNow_150 _ _))
    · exact tf_to tn_fr.rf (tf_mo (by decide) (fr_X5_leastNow_85 _ (fun _ _ _ _ => ih _ _ _ _) _ _ _ _ _ _))
set_option maxRecDepth 20000 in
theorem fr_X5_leastNow_61  (x1 : Int32) (σ : tn_M) : tf [(5, 18), (5, 23), (44, 999), (47, 999)] σ (F_X5_leastNow_61 x1 σ) := by
  unfold F_X5_leastNow_61
  refine tf_m (tn_fr.si rfl tn_fr.rf) (fun σ1 hσ1 => ?_)
  exact tf_to hσ1 (tf_mo (by decide) (fr_X5_leastNow_71 _ _ _ _ _))
set_option maxRecDepth 20000 in
theorem fr_X5_leastNow_54 (c13 : Int32 → Int32 → tn_M → Option (Int32 × tn_M)) (hc13 : ∀ (x1 : Int32) (x2 : Int32) (σ : tn_M), tf [(5, 18), (5, 23), (44, 999), (47, 999)] σ (c13 x1 x2 σ)) (x1 : Int32) (x2 : Int32) (y1 : Int32) (y2 : Int32) (σ : tn_M) : tf [(5, 18), (5, 23), (44, 999), (47, 999)] σ (F_X5_leastNow_54 c13 x1 x2 y1 y2 σ) := by
  unfold F_X5_leastNow_54
  refine tf_ck (fun hk1 => ?_)
  refine tf_m (tn_fr.si (by rfl) tn_fr.rf) (fun σ1 hσ1 => ?_)
  exact tf_to hσ1 (tf_mo (by decide) (hc13 _ _ _))
set_option maxRecDepth 20000 in
theorem fr_X5_leastNow_48 (c13 : Int32 → Int32 → tn_M → Option (Int32 × tn_M)) (hc13 : ∀ (x1 : Int32) (x2 : Int32) (σ : tn_M), tf [(5, 18), (5, 23), (44, 999), (47, 999)] σ (c13 x1 x2 σ)) (x1 : Int32) (x2 : Int32) (y1 : Int32) (σ : tn_M) : tf [(5, 18), (5, 23), (44, 999), (47, 999)] σ (F_X5_leastNow_48 c13 x1 x2 y1 σ) := by
  unfold F_X5_leastNow_48
  refine tf_ck (fun hk1 => ?_)
  exact tf_to tn_fr.rf (tf_mo (by decide) (fr_X5_leastNow_54 _ hc13 _ _ _ _ _))
set_option maxRecDepth 20000 in
theorem fr_X5_leastNow_13  : ∀ (n : Nat) (x1 : Int32) (x2 : Int32) (σ : tn_M), tf [(5, 18), (5, 23), (44, 999), (47, 999)] σ (F_X5_leastNow_13 n x1 x2 σ) := by
  intro n
  induction n with
  | zero => intros; exact tf_none
  | succ tn_n ih =>
    intro x1 x2 σ
    rw [F_X5_leastNow_13]
    refine tf_ite ?_ ?_
    · exact tf_to tn_fr.rf (tf_mo (by decide) (fr_X5_leastNow_61 _ _))
    · refine tf_bd (by decide) (fr_X5_isBound _ _) tn_fr.rf (fun r2 σ1 hσ1 => ?_)
      refine tf_ite ?_ ?_
      · exact tf_to hσ1 (tf_mo (by decide) (fr_X5_leastNow_48 _ (fun _ _ _ => ih _ _ _) _ _ _ _))
      · refine tf_ck (fun hk1 => ?_)
        refine tf_ite ?_ ?_
        · exact tf_to hσ1 (tf_mo (by decide) (fr_X5_leastNow_48 _ (fun _ _ _ => ih _ _ _) _ _ _ _))
        · exact tf_to hσ1 (tf_mo (by decide) (fr_X5_leastNow_54 _ (fun _ _ _ => ih _ _ _) _ _ _ _ _))
set_option maxRecDepth 20000 in
theorem fr_X5_leastNow   (σ : tn_M) : tf [(5, 7), (5, 8), (5, 11), (5, 18), (5, 19), (5, 20), (5, 23), (38, 999), (39, 999), (40, 999), (44, 999), (45, 999), (46, 999), (47, 999)] σ (f_X5_leastNow σ) := by
  unfold f_X5_leastNow
  refine tf_bd (by decide) (fr_X5_tries _) tn_fr.rf (fun _ σ1 hσ1 => ?_)
  exact tf_to hσ1 (tf_mo (by decide) (fr_X5_leastNow_13 _ _ _ _))
set_option maxRecDepth 20000 in
theorem fr_X5_leastFine   (σ : tn_M) : tf [(5, 7), (5, 8), (5, 11), (5, 18), (5, 19), (5, 20), (5, 23), (38, 999), (39, 999), (40, 999), (44, 999), (45, 999), (46, 999), (47, 999)] σ (f_X5_leastFine σ) := by
  unfold f_X5_leastFine
  refine tf_bd (by decide) (fr_X5_leastNow _) tn_fr.rf (fun r2 σ1 hσ1 => ?_)
  exact tf_some hσ1
set_option maxRecDepth 20000 in
theorem fr_X5_bestCap_88  (x1 : Int32) (x2 : Int32) (x3 : Int64) (σ : tn_M) : tf [] σ (F_X5_bestCap_88 x1 x2 x3 σ) := by
  unfold F_X5_bestCap_88
  refine tf_ite ?_ ?_
  · exact tf_some tn_fr.rf
  · refine tf_ite ?_ ?_
    · refine tf_bd (by decide) (fr_X5_no _ _) tn_fr.rf (fun r4 σ3 hσ3 => ?_)
      exact tf_some hσ3
    · refine tf_bd (by decide) (fr_X5_part _ _ _ _) tn_fr.rf (fun r2 σ1 hσ1 => ?_)
      exact tf_some hσ1
set_option maxRecDepth 20000 in
theorem fr_X5_bestCap_76 (c25 : Int32 → Int32 → Int64 → Int32 → tn_M → Option (Int64 × tn_M)) (hc25 : ∀ (x1 : Int32) (x2 : Int32) (x3 : Int64) (x5 : Int32) (σ : tn_M), tf [(5, 7), (5, 8), (5, 11), (5, 18), (5, 19), (5, 20), (5, 23), (5, 24), (38, 999), (39, 999), (40, 999), (44, 999), (45, 999), (46, 999), (47, 999)] σ (c25 x1 x2 x3 x5 σ)) (x1 : Int32) (x5 : Int32) (x6 : Int64) (σ : tn_M) : tf [(5, 7), (5, 8), (5, 11), (5, 18), (5, 19), (5, 20), (5, 23), (5, 24), (38, 999), (39, 999), (40, 999), (44, 999), (45, 999), (46, 999), (47, 999)] σ (F_X5_bestCap_76 c25 x1 x5 x6 σ) := by
  unfold F_X5_bestCap_76
  exact tf_to tn_fr.rf (tf_mo (by decide) (hc25 _ _ _ _ _))
set_option maxRecDepth 20000 in
theorem fr_X5_bestCap_25  : ∀ (n : Nat) (x1 : Int32) (x2 : Int32) (x3 : Int64) (x5 : Int32) (σ : tn_M), tf [(5, 7), (5, 8), (5, 11), (5, 18), (5, 19), (5, 20), (5, 23), (5, 24), (38, 999), (39, 999), (40, 999), (44, 999), (45, 999), (46, 999), (47, 999)] σ (F_X5_bestCap_25 n x1 x2 x3 x5 σ) := by
  intro n
  induction n with
  | zero => intros; exact tf_none
  | succ tn_n ih =>
    intro x1 x2 x3 x5 σ
    rw [F_X5_bestCap_25]
    refine tf_ite ?_ ?_
    · exact tf_to tn_fr.rf (tf_mo (by decide) (fr_X5_bestCap_88 _ _ _ _))
    · refine tf_bd (by decide) (fr_X5_tries _) tn_fr.rf (fun _ σ1 hσ1 => ?_)
      refine tf_m (tn_fr.si rfl hσ1) (fun σ2 hσ2 => ?_)
      refine tf_m (tn_fr.si rfl hσ2) (fun σ3 hσ3 => ?_)
      refine tf_bd (by decide) (fr_X5_lays _ _) hσ3 (fun _ σ4 hσ4 => ?_)
      refine tf_bd (by decide) (fr_X5_runsDown _) hσ4 (fun r6 σ5 hσ5 => ?_)
      refine tf_ite ?_ ?_
      · exact tf_to hσ5 (ih _ _ _ _ _)
      · refine tf_bd (by decide) (fr_X5_together _) hσ5 (fun r8 σ7 hσ7 => ?_)
        refine tf_ite ?_ ?_
        · exact tf_to hσ7 (tf_mo (by decide) (fr_X5_bestCap_76 _ (fun _ _ _ _ _ => ih _ _ _ _ _) _ _ _ _))
        · refine tf_ite ?_ ?_
          · exact tf_to hσ7 (ih _ _ _ _ _)
          · exact tf_to hσ7 (tf_mo (by decide) (fr_X5_bestCap_76 _ (fun _ _ _ _ _ => ih _ _ _ _ _) _ _ _ _))
set_option maxRecDepth 20000 in
theorem fr_X5_bestCap  (a1 : Int32) (σ : tn_M) : tf [(5, 7), (5, 8), (5, 11), (5, 18), (5, 19), (5, 20), (5, 23), (5, 24), (38, 999), (39, 999), (40, 999), (44, 999), (45, 999), (46, 999), (47, 999)] σ (f_X5_bestCap a1 σ) := by
  unfold f_X5_bestCap
  refine tf_bd (by decide) (fr_X5_in _ _ _ _) tn_fr.rf (fun r2 σ1 hσ1 => ?_)
  refine tf_ite ?_ ?_
  · refine tf_bd (by decide) (fr_X5_no _ _) hσ1 (fun r4 σ3 hσ3 => ?_)
    exact tf_some hσ3
  · exact tf_to hσ1 (tf_mo (by decide) (fr_X5_bestCap_25 _ _ _ _ _ _))
set_option maxRecDepth 20000 in
theorem fr_X5_edge_17  : ∀ (n : Nat) (x1 : Int32) (x2 : Int32) (σ : tn_M), tf [(5, 23), (44, 999), (46, 999), (47, 999)] σ (F_X5_edge_17 n x1 x2 σ) := by
  intro n
  induction n with
  | zero => intros; exact tf_none
  | succ tn_n ih =>
    intro x1 x2 σ
    rw [F_X5_edge_17]
    refine tf_ite ?_ ?_
    · exact tf_some tn_fr.rf
    · refine tf_ck (fun hk1 => ?_)
      refine tf_m (tn_fr.si (by rfl) tn_fr.rf) (fun σ1 hσ1 => ?_)
      refine tf_bd (by decide) (fr_X5_answerOf _ _) hσ1 (fun r3 σ2 hσ2 => ?_)
      refine tf_ite ?_ ?_
      · exact tf_some hσ2
      · exact tf_to hσ2 (ih _ _ _)
set_option maxRecDepth 20000 in
theorem fr_X5_edge  (a1 : Int32) (σ : tn_M) : tf [(5, 7), (5, 8), (5, 11), (5, 18), (5, 19), (5, 20), (5, 23), (38, 999), (39, 999), (40, 999), (44, 999), (45, 999), (46, 999), (47, 999)] σ (f_X5_edge a1 σ) := by
  unfold f_X5_edge
  refine tf_bd (by decide) (fr_X5_isShop _ _) tn_fr.rf (fun r2 σ1 hσ1 => ?_)
  refine tf_ite ?_ ?_
  · exact tf_some hσ1
  · refine tf_bd (by decide) (fr_X5_tries _) hσ1 (fun _ σ3 hσ3 => ?_)
    exact tf_to hσ3 (tf_mo (by decide) (fr_X5_edge_17 _ _ _ _))
set_option maxRecDepth 20000 in
theorem fr_X5_always_15   (σ : tn_M) : tf [] σ (F_X5_always_15 σ) := by
  unfold F_X5_always_15
  refine tf_bd (by decide) (fr_X5_no _ _) tn_fr.rf (fun r2 σ1 hσ1 => ?_)
  exact tf_some hσ1
set_option maxRecDepth 20000 in
theorem fr_X5_always  (a1 : Int32) (a2 : Int32) (σ : tn_M) : tf [(5, 7), (5, 8), (5, 11), (5, 18), (5, 19), (5, 20), (5, 23), (5, 24), (38, 999), (39, 999), (40, 999), (44, 999), (45, 999), (46, 999), (47, 999)] σ (f_X5_always a1 a2 σ) := by
  unfold f_X5_always
  refine tf_bd (by decide) (fr_X5_isShop _ _) tn_fr.rf (fun r2 σ1 hσ1 => ?_)
  refine tf_ite ?_ ?_
  · exact tf_to hσ1 (tf_mo (by decide) (fr_X5_always_15 _))
  · refine tf_bd (by decide) (fr_X5_isTwo _ _) hσ1 (fun r4 σ3 hσ3 => ?_)
    refine tf_ite ?_ ?_
    · exact tf_to hσ3 (tf_mo (by decide) (fr_X5_always_15 _))
    · refine tf_bd (by decide) (fr_X5_tries _) hσ3 (fun _ σ5 hσ5 => ?_)
      refine tf_ck (fun hk1 => ?_)
      refine tf_m (tn_fr.si (by rfl) hσ5) (fun σ6 hσ6 => ?_)
      refine tf_m (tn_fr.si rfl hσ6) (fun σ7 hσ7 => ?_)
      refine tf_bd (by decide) (fr_X5_runsDown _) hσ7 (fun r9 σ8 hσ8 => ?_)
      refine tf_ite ?_ ?_
      · refine tf_bd (by decide) (fr_X5_no _ _) hσ8 (fun r21 σ20 hσ20 => ?_)
        exact tf_some hσ20
      · refine tf_bd (by decide) (fr_X5_earnAll _) hσ8 (fun _ σ10 hσ10 => ?_)
        refine tf_ck (fun hk2 => ?_)
        refine tf_lt (fun w11 => ?_)
        refine tf_bd (by decide) (fr_X5_tries _) hσ10 (fun _ σ12 hσ12 => ?_)
        refine tf_bd (by decide) (fr_X5_runsDown _) hσ12 (fun r14 σ13 hσ13 => ?_)
        refine tf_ite ?_ ?_
        · refine tf_bd (by decide) (fr_X5_no _ _) hσ13 (fun r19 σ18 hσ18 => ?_)
          exact tf_some hσ18
        · refine tf_bd (by decide) (fr_X5_earnAll _) hσ13 (fun _ σ15 hσ15 => ?_)
          refine tf_ck (fun hk3 => ?_)
          refine tf_bd (by decide) (fr_X5_part _ _ _ _) hσ15 (fun r17 σ16 hσ16 => ?_)
          exact tf_some hσ16
set_option maxRecDepth 20000 in
theorem fr_X5_turn  (a1 : Int32) (a2 : Int32) (σ : tn_M) : tf [(43, 999)] σ (f_X5_turn a1 a2 σ) := by
  unfold f_X5_turn
  refine tf_bd (by decide) (fr_X5_in _ _ _ _) tn_fr.rf (fun r2 σ1 hσ1 => ?_)
  refine tf_ite ?_ ?_
  · exact tf_some hσ1
  · refine tf_bd (by decide) (fr_X5_in _ _ _ _) hσ1 (fun r4 σ3 hσ3 => ?_)
    refine tf_ite ?_ ?_
    · exact tf_some hσ3
    · refine tf_ck (fun hk1 => ?_)
      refine tf_lt (fun w5 => ?_)
      refine tf_ck (fun hk2 => ?_)
      refine tf_m (tn_fr.si (by rfl) hσ3) (fun σ6 hσ6 => ?_)
      exact tf_some hσ6
set_option maxRecDepth 20000 in
theorem fr_X5_layTurn_6  : ∀ (n : Nat) (x1 : Int32) (x2 : Int32) (σ : tn_M), tf [(44, 999)] σ (F_X5_layTurn_6 n x1 x2 σ) := by
  intro n
  induction n with
  | zero => intros; exact tf_none
  | succ tn_n ih =>
    intro x1 x2 σ
    rw [F_X5_layTurn_6]
    refine tf_ite ?_ ?_
    · exact tf_some tn_fr.rf
    · refine tf_ck (fun hk1 => ?_)
      refine tf_lt (fun v1 => ?_)
      refine tf_ck (fun hk2 => ?_)
      refine tf_m (tn_fr.si (by rfl) tn_fr.rf) (fun σ2 hσ2 => ?_)
      exact tf_to hσ2 (ih _ _ _)
set_option maxRecDepth 20000 in
theorem fr_X5_layTurn  (a1 : Int32) (σ : tn_M) : tf [(5, 7), (5, 8), (5, 11), (5, 18), (5, 19), (5, 20), (38, 999), (39, 999), (40, 999), (44, 999), (45, 999), (46, 999)] σ (f_X5_layTurn a1 σ) := by
  unfold f_X5_layTurn
  refine tf_bd (by decide) (fr_X5_tries _) tn_fr.rf (fun _ σ1 hσ1 => ?_)
  exact tf_to hσ1 (tf_mo (by decide) (fr_X5_layTurn_6 _ _ _ _))
set_option maxRecDepth 20000 in
theorem fr_X5_keepsOf_48  (x1 : Int32) (x2 : Int32) (x3 : Int32) (σ : tn_M) : tf [] σ (F_X5_keepsOf_48 x1 x2 x3 σ) := by
  unfold F_X5_keepsOf_48
  refine tf_lt (fun v1 => ?_)
  exact tf_some tn_fr.rf
set_option maxRecDepth 20000 in
theorem fr_X5_keepsOf_15 (c2 : Int32 → Int32 → tn_M → Option (Int32 × tn_M)) (hc2 : ∀ (x1 : Int32) (x2 : Int32) (σ : tn_M), tf [(5, 7), (5, 8), (5, 11), (5, 18), (5, 19), (5, 20), (5, 23), (38, 999), (39, 999), (40, 999), (44, 999), (45, 999), (46, 999), (47, 999)] σ (c2 x1 x2 σ)) : ∀ (n : Nat) (x1 : Int32) (x2 : Int32) (x3 : Int32) (σ : tn_M), tf [(5, 7), (5, 8), (5, 11), (5, 18), (5, 19), (5, 20), (5, 23), (38, 999), (39, 999), (40, 999), (44, 999), (45, 999), (46, 999), (47, 999)] σ (F_X5_keepsOf_15 c2 n x1 x2 x3 σ) := by
  intro n
  induction n with
  | zero => intros; exact tf_none
  | succ tn_n ih =>
    intro x1 x2 x3 σ
    rw [F_X5_keepsOf_15]
    refine tf_ite ?_ ?_
    · exact tf_to tn_fr.rf (tf_mo (by decide) (hc2 _ _ _))
    · refine tf_bd (by decide) (fr_X5_answerOf _ _) tn_fr.rf (fun r2 σ1 hσ1 => ?_)
      refine tf_bd (by decide) (fr_X5_earnsBy _ _ _) hσ1 (fun r4 σ3 hσ3 => ?_)
      refine tf_ck (fun hk1 => ?_)
      refine tf_bd (by decide) (fr_X5_earnsBy _ _ _) hσ3 (fun r6 σ5 hσ5 => ?_)
      refine tf_ite ?_ ?_
      · exact tf_to hσ5 (ih _ _ _ _)
      · exact tf_to hσ5 (tf_mo (by decide) (fr_X5_keepsOf_48 _ _ _ _))
set_option maxRecDepth 20000 in
theorem fr_X5_keepsOf_2  : ∀ (n : Nat) (x1 : Int32) (x2 : Int32) (σ : tn_M), tf [(5, 7), (5, 8), (5, 11), (5, 18), (5, 19), (5, 20), (5, 23), (38, 999), (39, 999), (40, 999), (44, 999), (45, 999), (46, 999), (47, 999)] σ (F_X5_keepsOf_2 n x1 x2 σ) := by
  intro n
  induction n with
  | zero => intros; exact tf_none
  | succ tn_n ih =>
    intro x1 x2 σ
    rw [F_X5_keepsOf_2]
    refine tf_ite ?_ ?_
    · exact tf_some tn_fr.rf
    · refine tf_bd (by decide) (fr_X5_layTurn _ _) tn_fr.rf (fun _ σ1 hσ1 => ?_)
      exact tf_to hσ1 (tf_mo (by decide) (fr_X5_keepsOf_15 _ (fun _ _ _ => ih _ _ _) _ _ _ _ _))
set_option maxRecDepth 20000 in
theorem fr_X5_keepsOf  (a1 : Int32) (σ : tn_M) : tf [(5, 7), (5, 8), (5, 11), (5, 18), (5, 19), (5, 20), (5, 23), (38, 999), (39, 999), (40, 999), (44, 999), (45, 999), (46, 999), (47, 999)] σ (f_X5_keepsOf a1 σ) := by
  unfold f_X5_keepsOf
  exact tf_to tn_fr.rf (tf_mo (by decide) (fr_X5_keepsOf_2 _ _ _ _))
set_option maxRecDepth 20000 in
theorem fr_X5_keeps  (a1 : Int32) (σ : tn_M) : tf [(5, 7), (5, 8), (5, 11), (5, 18), (5, 19), (5, 20), (5, 23), (38, 999), (39, 999), (40, 999), (44, 999), (45, 999), (46, 999), (47, 999)] σ (f_X5_keeps a1 σ) := by
  unfold f_X5_keeps
  refine tf_bd (by decide) (fr_X5_isTwo _ _) tn_fr.rf (fun r2 σ1 hσ1 => ?_)
  refine tf_ite ?_ ?_
  · exact tf_some hσ1
  · refine tf_bd (by decide) (fr_X5_keepsOf _ _) hσ1 (fun r4 σ3 hσ3 => ?_)
    exact tf_some hσ3
set_option maxRecDepth 20000 in
theorem fr_X5_week_58  (x2 : Int32) (x3 : Int64) (σ : tn_M) : tf [] σ (F_X5_week_58 x2 x3 σ) := by
  unfold F_X5_week_58
  refine tf_bd (by decide) (fr_X5_part _ _ _ _) tn_fr.rf (fun r2 σ1 hσ1 => ?_)
  exact tf_some hσ1
set_option maxRecDepth 20000 in
theorem fr_X5_week_26  : ∀ (n : Nat) (x1 : Int32) (x2 : Int32) (x3 : Int64) (x5 : Int32) (σ : tn_M), tf [(5, 7), (5, 8), (5, 11), (5, 18), (5, 19), (5, 20), (5, 23), (38, 999), (39, 999), (40, 999), (44, 999), (45, 999), (46, 999), (47, 999)] σ (F_X5_week_26 n x1 x2 x3 x5 σ) := by
  intro n
  induction n with
  | zero => intros; exact tf_none
  | succ tn_n ih =>
    intro x1 x2 x3 x5 σ
    rw [F_X5_week_26]
    refine tf_ite ?_ ?_
    · exact tf_to tn_fr.rf (tf_mo (by decide) (fr_X5_week_58 _ _ _))
    · refine tf_bd (by decide) (fr_X5_layTurn _ _) tn_fr.rf (fun _ σ1 hσ1 => ?_)
      refine tf_bd (by decide) (fr_X5_earnAll _) hσ1 (fun _ σ2 hσ2 => ?_)
      refine tf_ck (fun hk1 => ?_)
      refine tf_lt (fun w3 => ?_)
      exact tf_to hσ2 (ih _ _ _ _ _)
set_option maxRecDepth 20000 in
theorem fr_X5_week_15   (σ : tn_M) : tf [] σ (F_X5_week_15 σ) := by
  unfold F_X5_week_15
  refine tf_bd (by decide) (fr_X5_no _ _) tn_fr.rf (fun r2 σ1 hσ1 => ?_)
  exact tf_some hσ1
set_option maxRecDepth 20000 in
theorem fr_X5_week  (a1 : Int32) (a2 : Int32) (σ : tn_M) : tf [(5, 7), (5, 8), (5, 11), (5, 18), (5, 19), (5, 20), (5, 23), (38, 999), (39, 999), (40, 999), (44, 999), (45, 999), (46, 999), (47, 999)] σ (f_X5_week a1 a2 σ) := by
  unfold f_X5_week
  refine tf_bd (by decide) (fr_X5_isShop _ _) tn_fr.rf (fun r2 σ1 hσ1 => ?_)
  refine tf_ite ?_ ?_
  · exact tf_to hσ1 (tf_mo (by decide) (fr_X5_week_15 _))
  · refine tf_bd (by decide) (fr_X5_isTwo _ _) hσ1 (fun r4 σ3 hσ3 => ?_)
    refine tf_ite ?_ ?_
    · exact tf_to hσ3 (tf_mo (by decide) (fr_X5_week_15 _))
    · exact tf_to hσ3 (tf_mo (by decide) (fr_X5_week_26 _ _ _ _ _ _))
set_option maxRecDepth 20000 in
theorem fr_X5_weekGoes_110 (c59 : Int32 → tn_M → Option (Unit × tn_M)) (hc59 : ∀ (x1 : Int32) (σ : tn_M), tf [(45, 999)] σ (c59 x1 σ)) (x1 : Int32) (y1 : Int32) (y2 : Int32) (σ : tn_M) : tf [(45, 999)] σ (F_X5_weekGoes_110 c59 x1 y1 y2 σ) := by
  unfold F_X5_weekGoes_110
  refine tf_ck (fun hk1 => ?_)
  refine tf_m (tn_fr.si (by rfl) tn_fr.rf) (fun σ1 hσ1 => ?_)
  exact tf_to hσ1 (tf_mo (by decide) (hc59 _ _))
set_option maxRecDepth 20000 in
theorem fr_X5_weekGoes_59  : ∀ (n : Nat) (x1 : Int32) (σ : tn_M), tf [(45, 999)] σ (F_X5_weekGoes_59 n x1 σ) := by
  intro n
  induction n with
  | zero => intros; exact tf_none
  | succ tn_n ih =>
    intro x1 σ
    rw [F_X5_weekGoes_59]
    refine tf_ite ?_ ?_
    · exact tf_some tn_fr.rf
    · refine tf_ck (fun hk1 => ?_)
      refine tf_bd (by decide) (fr_X5_openIn _ _) tn_fr.rf (fun r2 σ1 hσ1 => ?_)
      refine tf_lt (fun v3 => ?_)
      refine tf_lt (fun w4 => ?_)
      refine tf_ite ?_ ?_
      · refine tf_ite ?_ ?_
        · exact tf_to hσ1 (tf_mo (by decide) (fr_X5_weekGoes_110 _ (fun _ _ => ih _ _) _ _ _ _))
        · exact tf_to hσ1 (tf_mo (by decide) (fr_X5_weekGoes_110 _ (fun _ _ => ih _ _) _ _ _ _))
      · exact tf_to hσ1 (tf_mo (by decide) (fr_X5_weekGoes_110 _ (fun _ _ => ih _ _) _ _ _ _))
set_option maxRecDepth 20000 in
theorem fr_X5_weekGoes_57   (σ : tn_M) : tf [(45, 999)] σ (F_X5_weekGoes_57 σ) := by
  unfold F_X5_weekGoes_57
  exact tf_to tn_fr.rf (tf_mo (by decide) (fr_X5_weekGoes_59 _ _ _))
set_option maxRecDepth 20000 in
theorem fr_X5_weekGoes_34  : ∀ (n : Nat) (x1 : Int32) (σ : tn_M), tf [(44, 999), (45, 999)] σ (F_X5_weekGoes_34 n x1 σ) := by
  intro n
  induction n with
  | zero => intros; exact tf_none
  | succ tn_n ih =>
    intro x1 σ
    rw [F_X5_weekGoes_34]
    refine tf_ite ?_ ?_
    · exact tf_to tn_fr.rf (tf_mo (by decide) (fr_X5_weekGoes_57 _))
    · refine tf_ck (fun hk1 => ?_)
      refine tf_ck (fun hk2 => ?_)
      refine tf_m (tn_fr.si (by rfl) tn_fr.rf) (fun σ1 hσ1 => ?_)
      exact tf_to hσ1 (ih _ _)
set_option maxRecDepth 20000 in
theorem fr_X5_weekGoes_25   (σ : tn_M) : tf [(5, 23), (5, 24), (44, 999), (45, 999), (47, 999)] σ (F_X5_weekGoes_25 σ) := by
  unfold F_X5_weekGoes_25
  refine tf_bd (by decide) (fr_X5_runsDown _) tn_fr.rf (fun r2 σ1 hσ1 => ?_)
  refine tf_ite ?_ ?_
  · exact tf_to hσ1 (tf_mo (by decide) (fr_X5_weekGoes_34 _ _ _))
  · exact tf_to hσ1 (tf_mo (by decide) (fr_X5_weekGoes_57 _))
set_option maxRecDepth 20000 in
theorem fr_X5_weekGoes_2  : ∀ (n : Nat) (x1 : Int32) (σ : tn_M), tf [(5, 23), (5, 24), (44, 999), (45, 999), (47, 999), (48, 999)] σ (F_X5_weekGoes_2 n x1 σ) := by
  intro n
  induction n with
  | zero => intros; exact tf_none
  | succ tn_n ih =>
    intro x1 σ
    rw [F_X5_weekGoes_2]
    refine tf_ite ?_ ?_
    · exact tf_to tn_fr.rf (tf_mo (by decide) (fr_X5_weekGoes_25 _))
    · refine tf_ck (fun hk1 => ?_)
      refine tf_ck (fun hk2 => ?_)
      refine tf_m (tn_fr.si (by rfl) tn_fr.rf) (fun σ1 hσ1 => ?_)
      exact tf_to hσ1 (ih _ _)
set_option maxRecDepth 20000 in
theorem fr_X5_weekGoes   (σ : tn_M) : tf [(5, 23), (5, 24), (44, 999), (45, 999), (47, 999), (48, 999)] σ (f_X5_weekGoes σ) := by
  unfold f_X5_weekGoes
  exact tf_to tn_fr.rf (tf_mo (by decide) (fr_X5_weekGoes_2 _ _ _))
set_option maxRecDepth 20000 in
theorem fr_X5_weeksOf_21  (x2 : Int32) (σ : tn_M) : tf [] σ (F_X5_weeksOf_21 x2 σ) := by
  unfold F_X5_weeksOf_21
  refine tf_ite ?_ ?_
  · refine tf_ck (fun hk1 => ?_)
    exact tf_some tn_fr.rf
  · refine tf_ck (fun hk2 => ?_)
    exact tf_some tn_fr.rf
set_option maxRecDepth 20000 in
theorem fr_X5_weeksOf_6  : ∀ (n : Nat) (x1 : Int32) (x2 : Int32) (x3 : Int32) (σ : tn_M), tf [(5, 23), (5, 24), (44, 999), (45, 999), (47, 999), (48, 999)] σ (F_X5_weeksOf_6 n x1 x2 x3 σ) := by
  intro n
  induction n with
  | zero => intros; exact tf_none
  | succ tn_n ih =>
    intro x1 x2 x3 σ
    rw [F_X5_weeksOf_6]
    refine tf_ite ?_ ?_
    · exact tf_to tn_fr.rf (tf_mo (by decide) (fr_X5_weeksOf_21 _ _))
    · refine tf_bd (by decide) (fr_X5_weekGoes _) tn_fr.rf (fun _ σ1 hσ1 => ?_)
      exact tf_to hσ1 (ih _ _ _ _)
set_option maxRecDepth 20000 in
theorem fr_X5_weeksOf  (a1 : Int32) (a2 : Int32) (σ : tn_M) : tf [(5, 7), (5, 8), (5, 11), (5, 18), (5, 19), (5, 20), (5, 23), (5, 24), (38, 999), (39, 999), (40, 999), (44, 999), (45, 999), (46, 999), (47, 999), (48, 999)] σ (f_X5_weeksOf a1 a2 σ) := by
  unfold f_X5_weeksOf
  refine tf_bd (by decide) (fr_X5_tries _) tn_fr.rf (fun _ σ1 hσ1 => ?_)
  exact tf_to hσ1 (tf_mo (by decide) (fr_X5_weeksOf_6 _ _ _ _ _))
set_option maxRecDepth 20000 in
theorem fr_X5_weeks  (a1 : Int32) (a2 : Int32) (σ : tn_M) : tf [(5, 7), (5, 8), (5, 11), (5, 18), (5, 19), (5, 20), (5, 23), (5, 24), (38, 999), (39, 999), (40, 999), (44, 999), (45, 999), (46, 999), (47, 999), (48, 999)] σ (f_X5_weeks a1 a2 σ) := by
  unfold f_X5_weeks
  refine tf_bd (by decide) (fr_X5_in _ _ _ _) tn_fr.rf (fun r2 σ1 hσ1 => ?_)
  refine tf_ite ?_ ?_
  · exact tf_some hσ1
  · refine tf_bd (by decide) (fr_X5_in _ _ _ _) hσ1 (fun r4 σ3 hσ3 => ?_)
    refine tf_ite ?_ ?_
    · exact tf_some hσ3
    · refine tf_bd (by decide) (fr_X5_weeksOf _ _ _) hσ3 (fun r6 σ5 hσ5 => ?_)
      exact tf_some hσ5
set_option maxRecDepth 20000 in
theorem fr_X5_isNoWayBack_60  (x1 : Int32) (σ : tn_M) : tf [] σ (F_X5_isNoWayBack_60 x1 σ) := by
  unfold F_X5_isNoWayBack_60
  refine tf_lt (fun v1 => ?_)
  exact tf_zr tn_fr.rf
set_option maxRecDepth 20000 in
theorem fr_X5_isNoWayBack_37  : ∀ (n : Nat) (x1 : Int32) (x2 : Int32) (σ : tn_M), tf [(44, 999)] σ (F_X5_isNoWayBack_37 n x1 x2 σ) := by
  intro n
  induction n with
  | zero => intros; exact tf_none
  | succ tn_n ih =>
    intro x1 x2 σ
    rw [F_X5_isNoWayBack_37]
    refine tf_ite ?_ ?_
    · exact tf_to tn_fr.rf (tf_mo (by decide) (fr_X5_isNoWayBack_60 _ _))
    · refine tf_ck (fun hk1 => ?_)
      refine tf_ck (fun hk2 => ?_)
      refine tf_m (tn_fr.si (by rfl) tn_fr.rf) (fun σ1 hσ1 => ?_)
      exact tf_to hσ1 (ih _ _ _)
set_option maxRecDepth 20000 in
theorem fr_X5_isNoWayBack_25   (σ : tn_M) : tf [(5, 23), (44, 999), (47, 999)] σ (F_X5_isNoWayBack_25 σ) := by
  unfold F_X5_isNoWayBack_25
  refine tf_bd (by decide) (fr_X5_lays _ _) tn_fr.rf (fun _ σ1 hσ1 => ?_)
  refine tf_bd (by decide) (fr_X5_isStill _) hσ1 (fun r3 σ2 hσ2 => ?_)
  exact tf_to hσ2 (tf_mo (by decide) (fr_X5_isNoWayBack_37 _ _ _ _))
set_option maxRecDepth 20000 in
theorem fr_X5_isNoWayBack_2  : ∀ (n : Nat) (x1 : Int32) (σ : tn_M), tf [(5, 23), (44, 999), (47, 999), (48, 999)] σ (F_X5_isNoWayBack_2 n x1 σ) := by
  intro n
  induction n with
  | zero => intros; exact tf_none
  | succ tn_n ih =>
    intro x1 σ
    rw [F_X5_isNoWayBack_2]
    refine tf_ite ?_ ?_
    · exact tf_to tn_fr.rf (tf_mo (by decide) (fr_X5_isNoWayBack_25 _))
    · refine tf_ck (fun hk1 => ?_)
      refine tf_ck (fun hk2 => ?_)
      refine tf_m (tn_fr.si (by rfl) tn_fr.rf) (fun σ1 hσ1 => ?_)
      exact tf_to hσ1 (ih _ _)
set_option maxRecDepth 20000 in
theorem fr_X5_isNoWayBack   (σ : tn_M) : tf [(5, 23), (44, 999), (47, 999), (48, 999)] σ (f_X5_isNoWayBack σ) := by
  unfold f_X5_isNoWayBack
  exact tf_to tn_fr.rf (tf_mo (by decide) (fr_X5_isNoWayBack_2 _ _ _))
set_option maxRecDepth 20000 in
theorem fr_X5_backNow_6  : ∀ (n : Nat) (x1 : Int32) (σ : tn_M), tf [(5, 23), (5, 24), (44, 999), (45, 999), (47, 999), (48, 999)] σ (F_X5_backNow_6 n x1 σ) := by
  intro n
  induction n with
  | zero => intros; exact tf_none
  | succ tn_n ih =>
    intro x1 σ
    rw [F_X5_backNow_6]
    refine tf_ite ?_ ?_
    · exact tf_some tn_fr.rf
    · refine tf_bd (by decide) (fr_X5_isNoWayBack _) tn_fr.rf (fun r2 σ1 hσ1 => ?_)
      refine tf_ite ?_ ?_
      · refine tf_bd (by decide) (fr_X5_weekGoes _) hσ1 (fun _ σ3 hσ3 => ?_)
        exact tf_to hσ3 (ih _ _)
      · exact tf_some hσ1
set_option maxRecDepth 20000 in
theorem fr_X5_backNow   (σ : tn_M) : tf [(5, 7), (5, 8), (5, 11), (5, 18), (5, 19), (5, 20), (5, 23), (5, 24), (38, 999), (39, 999), (40, 999), (44, 999), (45, 999), (46, 999), (47, 999), (48, 999)] σ (f_X5_backNow σ) := by
  unfold f_X5_backNow
  refine tf_bd (by decide) (fr_X5_tries _) tn_fr.rf (fun _ σ1 hσ1 => ?_)
  exact tf_to hσ1 (tf_mo (by decide) (fr_X5_backNow_6 _ _ _))
set_option maxRecDepth 20000 in
theorem fr_X5_back   (σ : tn_M) : tf [(5, 7), (5, 8), (5, 11), (5, 18), (5, 19), (5, 20), (5, 23), (5, 24), (38, 999), (39, 999), (40, 999), (44, 999), (45, 999), (46, 999), (47, 999), (48, 999)] σ (f_X5_back σ) := by
  unfold f_X5_back
  refine tf_bd (by decide) (fr_X5_backNow _) tn_fr.rf (fun r2 σ1 hσ1 => ?_)
  exact tf_some hσ1
set_option maxRecDepth 20000 in
theorem fr_X5_write_58  : ∀ (n : Nat) (x1 : Int32) (x2 : Int32) (x3 : Int32) (σ : tn_M), tf [(5, 23), (35, 999), (44, 999), (47, 999)] σ (F_X5_write_58 n x1 x2 x3 σ) := by
  intro n
  induction n with
  | zero => intros; exact tf_none
  | succ tn_n ih =>
    intro x1 x2 x3 σ
    rw [F_X5_write_58]
    refine tf_ite ?_ ?_
    · exact tf_some tn_fr.rf
    · refine tf_ck (fun hk1 => ?_)
      refine tf_bd (by decide) (fr_X5_answerOf _ _) tn_fr.rf (fun r2 σ1 hσ1 => ?_)
      refine tf_bd (by decide) (fr_X5_cut _ _ _) hσ1 (fun r4 σ3 hσ3 => ?_)
      refine tf_ck (fun hk2 => ?_)
      refine tf_m (tn_fr.si (by rfl) hσ3) (fun σ5 hσ5 => ?_)
      exact tf_to hσ5 (ih _ _ _ _)
set_option maxRecDepth 20000 in
theorem fr_X5_write_55  (x1 : Int32) (y0 : Int32) (σ : tn_M) : tf [(5, 23), (35, 999), (44, 999), (47, 999)] σ (F_X5_write_55 x1 y0 σ) := by
  unfold F_X5_write_55
  exact tf_to tn_fr.rf (tf_mo (by decide) (fr_X5_write_58 _ _ _ _ _))
set_option maxRecDepth 20000 in
theorem fr_X5_write  (a1 : Int32) (σ : tn_M) : tf [(5, 4), (5, 7), (5, 8), (5, 11), (5, 18), (5, 19), (5, 20), (5, 23), (35, 999), (38, 999), (39, 999), (40, 999), (44, 999), (45, 999), (46, 999), (47, 999)] σ (f_X5_write a1 σ) := by
  unfold f_X5_write
  refine tf_bd (by decide) (fr_X5_isSheet _ _) tn_fr.rf (fun r2 σ1 hσ1 => ?_)
  refine tf_ite ?_ ?_
  · exact tf_some hσ1
  · refine tf_ck (fun hk1 => ?_)
    refine tf_ite ?_ ?_
    · refine tf_bd (by decide) (fr_X5_tries _) hσ1 (fun _ σ3 hσ3 => ?_)
      refine tf_ck (fun hk2 => ?_)
      refine tf_ite ?_ ?_
      · exact tf_to hσ3 (tf_mo (by decide) (fr_X5_write_55 _ _ _))
      · refine tf_ck (fun hk3 => ?_)
        exact tf_to hσ3 (tf_mo (by decide) (fr_X5_write_55 _ _ _))
    · refine tf_bd (by decide) (fr_X5_met _ _) hσ1 (fun r5 σ4 hσ4 => ?_)
      exact tf_some hσ4
set_option maxRecDepth 20000 in
theorem fr_X5_count_159  : ∀ (n : Nat) (x2 : Int32) (x3 : Int32) (σ : tn_M), tf [] σ (F_X5_count_159 n x2 x3 σ) := by
  intro n
  induction n with
  | zero => intros; exact tf_none
  | succ tn_n ih =>
    intro x2 x3 σ
    rw [F_X5_count_159]
    refine tf_ite ?_ ?_
    · exact tf_some tn_fr.rf
    · refine tf_ck (fun hk1 => ?_)
      refine tf_lt (fun w1 => ?_)
      exact tf_to tn_fr.rf (ih _ _ _)
set_option maxRecDepth 20000 in
theorem fr_X5_count_104  : ∀ (n : Nat) (x2 : Int32) (x3 : Int32) (σ : tn_M), tf [] σ (F_X5_count_104 n x2 x3 σ) := by
  intro n
  induction n with
  | zero => intros; exact tf_none
  | succ tn_n ih =>
    intro x2 x3 σ
    rw [F_X5_count_104]
    refine tf_ite ?_ ?_
    · exact tf_some tn_fr.rf
    · refine tf_ck (fun hk1 => ?_)
      refine tf_lt (fun w1 => ?_)
      exact tf_to tn_fr.rf (ih _ _ _)
set_option maxRecDepth 20000 in
theorem fr_X5_count_77  : ∀ (n : Nat) (x2 : Int32) (x3 : Int32) (σ : tn_M), tf [] σ (F_X5_count_77 n x2 x3 σ) := by
  intro n
  induction n with
  | zero => intros; exact tf_none
  | succ tn_n ih =>
    intro x2 x3 σ
    rw [F_X5_count_77]
    refine tf_ite ?_ ?_
    · exact tf_some tn_fr.rf
    · refine tf_ck (fun hk1 => ?_)
      refine tf_lt (fun w1 => ?_)
      exact tf_to tn_fr.rf (ih _ _ _)
set_option maxRecDepth 20000 in
theorem fr_X5_count  (a1 : Int32) (σ : tn_M) : tf [(5, 7), (5, 8), (5, 11), (38, 999), (39, 999), (40, 999)] σ (f_X5_count a1 σ) := by
  unfold f_X5_count
  refine tf_bd (by decide) (fr_X5_reads _) tn_fr.rf (fun r2 σ1 hσ1 => ?_)
  refine tf_ite ?_ ?_
  · exact tf_some hσ1
  · refine tf_ite ?_ ?_
    · exact tf_some hσ1
    · refine tf_ite ?_ ?_
      · exact tf_some hσ1
      · refine tf_ite ?_ ?_
        · exact tf_to hσ1 (tf_mo (by decide) (fr_X5_count_77 _ _ _ _))
        · refine tf_ite ?_ ?_
          · exact tf_to hσ1 (tf_mo (by decide) (fr_X5_count_104 _ _ _ _))
          · refine tf_ite ?_ ?_
            · exact tf_some hσ1
            · refine tf_ite ?_ ?_
              · exact tf_some hσ1
              · refine tf_ite ?_ ?_
                · exact tf_to hσ1 (tf_mo (by decide) (fr_X5_count_159 _ _ _ _))
                · refine tf_ite ?_ ?_
                  · exact tf_some hσ1
                  · exact tf_some hσ1
set_option maxRecDepth 20000 in
theorem fr_X5_digest_262  (x1 : Int64) (σ : tn_M) : tf [(5, 7), (5, 8), (5, 11), (5, 18), (5, 19), (5, 20), (5, 23), (5, 24), (38, 999), (39, 999), (40, 999), (44, 999), (45, 999), (46, 999), (47, 999), (48, 999)] σ (F_X5_digest_262 x1 σ) := by
  unfold F_X5_digest_262
  refine tf_bd (by decide) (fr_X5_backNow _) tn_fr.rf (fun r2 σ1 hσ1 => ?_)
  exact tf_some hσ1
set_option maxRecDepth 20000 in
theorem fr_X5_digest_236  : ∀ (n : Nat) (x1 : Int64) (x3 : Int32) (σ : tn_M), tf [(5, 7), (5, 8), (5, 11), (5, 18), (5, 19), (5, 20), (5, 23), (5, 24), (38, 999), (39, 999), (40, 999), (44, 999), (45, 999), (46, 999), (47, 999), (48, 999)] σ (F_X5_digest_236 n x1 x3 σ) := by
  intro n
  induction n with
  | zero => intros; exact tf_none
  | succ tn_n ih =>
    intro x1 x3 σ
    rw [F_X5_digest_236]
    refine tf_ite ?_ ?_
    · exact tf_to tn_fr.rf (tf_mo (by decide) (fr_X5_digest_262 _ _))
    · refine tf_bd (by decide) (fr_X5_weeksOf _ _ _) tn_fr.rf (fun r2 σ1 hσ1 => ?_)
      refine tf_lt (fun w3 => ?_)
      exact tf_to hσ1 (ih _ _ _)
set_option maxRecDepth 20000 in
theorem fr_X5_digest_169  (x1 : Int64) (σ : tn_M) : tf [(5, 7), (5, 8), (5, 11), (5, 18), (5, 19), (5, 20), (5, 23), (5, 24), (38, 999), (39, 999), (40, 999), (44, 999), (45, 999), (46, 999), (47, 999), (48, 999)] σ (F_X5_digest_169 x1 σ) := by
  unfold F_X5_digest_169
  refine tf_bd (by decide) (fr_X5_restOf _ _) tn_fr.rf (fun r2 σ1 hσ1 => ?_)
  refine tf_lt (fun w3 => ?_)
  refine tf_bd (by decide) (fr_X5_stillOf _ _ _) hσ1 (fun r5 σ4 hσ4 => ?_)
  refine tf_lt (fun w6 => ?_)
  refine tf_bd (by decide) (fr_X5_leastNow _) hσ4 (fun r8 σ7 hσ7 => ?_)
  refine tf_lt (fun w9 => ?_)
  refine tf_bd (by decide) (fr_X5_keepsOf _ _) hσ7 (fun r11 σ10 hσ10 => ?_)
  refine tf_lt (fun w12 => ?_)
  refine tf_bd (by decide) (fr_X5_keepsOf _ _) hσ10 (fun r14 σ13 hσ13 => ?_)
  refine tf_lt (fun w15 => ?_)
  exact tf_to hσ13 (tf_mo (by decide) (fr_X5_digest_236 _ _ _ _))
set_option maxRecDepth 20000 in
theorem fr_X5_digest_141  : ∀ (n : Nat) (x1 : Int64) (x3 : Int32) (σ : tn_M), tf [(5, 7), (5, 8), (5, 11), (5, 18), (5, 19), (5, 20), (5, 23), (5, 24), (38, 999), (39, 999), (40, 999), (44, 999), (45, 999), (46, 999), (47, 999), (48, 999)] σ (F_X5_digest_141 n x1 x3 σ) := by
  intro n
  induction n with
  | zero => intros; exact tf_none
  | succ tn_n ih =>
    intro x1 x3 σ
    rw [F_X5_digest_141]
    refine tf_ite ?_ ?_
    · exact tf_to tn_fr.rf (tf_mo (by decide) (fr_X5_digest_169 _ _))
    · refine tf_bd (by decide) (fr_X5_allOf _ _ _) tn_fr.rf (fun r2 σ1 hσ1 => ?_)
      refine tf_lt (fun w3 => ?_)
      exact tf_to hσ1 (ih _ _ _)
set_option maxRecDepth 20000 in
theorem fr_X5_digest_139  (x1 : Int64) (σ : tn_M) : tf [(5, 7), (5, 8), (5, 11), (5, 18), (5, 19), (5, 20), (5, 23), (5, 24), (38, 999), (39, 999), (40, 999), (44, 999), (45, 999), (46, 999), (47, 999), (48, 999)] σ (F_X5_digest_139 x1 σ) := by
  unfold F_X5_digest_139
  exact tf_to tn_fr.rf (tf_mo (by decide) (fr_X5_digest_141 _ _ _ _))
set_option maxRecDepth 20000 in
theorem fr_X5_digest_45  : ∀ (n : Nat) (x1 : Int64) (x3 : Int32) (σ : tn_M), tf [(5, 7), (5, 8), (5, 11), (5, 18), (5, 19), (5, 20), (5, 23), (5, 24), (5, 25), (38, 999), (39, 999), (40, 999), (44, 999), (45, 999), (46, 999), (47, 999), (48, 999)] σ (F_X5_digest_45 n x1 x3 σ) := by
  intro n
  induction n with
  | zero => intros; exact tf_none
  | succ tn_n ih =>
    intro x1 x3 σ
    rw [F_X5_digest_45]
    refine tf_ite ?_ ?_
    · exact tf_to tn_fr.rf (tf_mo (by decide) (fr_X5_digest_139 _ _))
    · refine tf_bd (by decide) (fr_X5_earnsOf _ _ _) tn_fr.rf (fun r2 σ1 hσ1 => ?_)
      refine tf_lt (fun w3 => ?_)
      refine tf_bd (by decide) (fr_X5_earnsOf _ _ _) hσ1 (fun r5 σ4 hσ4 => ?_)
      refine tf_lt (fun w6 => ?_)
      refine tf_bd (by decide) (fr_X5_answerNow _ _) hσ4 (fun r8 σ7 hσ7 => ?_)
      refine tf_lt (fun w9 => ?_)
      refine tf_bd (by decide) (fr_X5_restOf _ _) hσ7 (fun r11 σ10 hσ10 => ?_)
      refine tf_lt (fun w12 => ?_)
      refine tf_bd (by decide) (fr_X5_bestOf _ _ _) hσ10 (fun r14 σ13 hσ13 => ?_)
      refine tf_lt (fun w15 => ?_)
      refine tf_bd (by decide) (fr_X5_bestOf _ _ _) hσ13 (fun r17 σ16 hσ16 => ?_)
      refine tf_lt (fun w18 => ?_)
      exact tf_to hσ16 (ih _ _ _)
set_option maxRecDepth 20000 in
theorem fr_X5_digest_31  (x1 : Int64) (σ : tn_M) : tf [(5, 7), (5, 8), (5, 11), (5, 18), (5, 19), (5, 20), (5, 23), (5, 24), (5, 25), (38, 999), (39, 999), (40, 999), (44, 999), (45, 999), (46, 999), (47, 999), (48, 999)] σ (F_X5_digest_31 x1 σ) := by
  unfold F_X5_digest_31
  refine tf_bd (by decide) (fr_X5_reads _) tn_fr.rf (fun r2 σ1 hσ1 => ?_)
  refine tf_lt (fun w3 => ?_)
  exact tf_to hσ1 (tf_mo (by decide) (fr_X5_digest_45 _ _ _ _))
set_option maxRecDepth 20000 in
theorem fr_X5_digest_6  : ∀ (n : Nat) (x1 : Int64) (x3 : Int32) (σ : tn_M), tf [(5, 7), (5, 8), (5, 11), (5, 18), (5, 19), (5, 20), (5, 23), (5, 24), (5, 25), (38, 999), (39, 999), (40, 999), (44, 999), (45, 999), (46, 999), (47, 999), (48, 999)] σ (F_X5_digest_6 n x1 x3 σ) := by
  intro n
  induction n with
  | zero => intros; exact tf_none
  | succ tn_n ih =>
    intro x1 x3 σ
    rw [F_X5_digest_6]
    refine tf_ite ?_ ?_
    · exact tf_to tn_fr.rf (tf_mo (by decide) (fr_X5_digest_31 _ _))
    · refine tf_bd (by decide) (fr_X5_count _ _) tn_fr.rf (fun r2 σ1 hσ1 => ?_)
      refine tf_lt (fun w3 => ?_)
      exact tf_to hσ1 (ih _ _ _)
set_option maxRecDepth 20000 in
theorem fr_X5_digest   (σ : tn_M) : tf [(5, 7), (5, 8), (5, 11), (5, 18), (5, 19), (5, 20), (5, 23), (5, 24), (5, 25), (38, 999), (39, 999), (40, 999), (44, 999), (45, 999), (46, 999), (47, 999), (48, 999)] σ (f_X5_digest σ) := by
  unfold f_X5_digest
  exact tf_to tn_fr.rf (tf_mo (by decide) (fr_X5_digest_6 _ _ _ _))
