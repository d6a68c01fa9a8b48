/-! the class's street, and its table -/
def cSt (S : tS) (σ : tn_M) : Prop := σ.1 1 5 = nI (sn S) ∧ σ.1 1 6 = nI (sm S) ∧ (∀ k, k < sn S → σ.1 10 k = nI (sz S k) ∧ σ.1 11 k = nI (sc S k)) ∧ ∀ i, i < sm S → ∀ j, j < 6 → σ.1 (13 + i) j = tn_er (sr S i) j
theorem cSt_same {S : tS} {σ σ' : tn_M} (h : cSt S σ) (e : ∀ a b, (a = 1 ∧ (b = 5 ∨ b = 6)) ∨ a = 10 ∨ a = 11 ∨ (13 ≤ a ∧ a ≤ 18) → σ'.1 a b = σ.1 a b) (hv : sm S ≤ 6) : cSt S σ' := by
  obtain ⟨h1, h2, h3, h4⟩ := h
  refine ⟨by rw [e 1 5 (by omega)]; exact h1, by rw [e 1 6 (by omega)]; exact h2, fun k hk => ?_, fun i hi j hj => ?_⟩
  · rw [e 10 k (by omega), e 11 k (by omega)]; exact h3 k hk
  · rw [e (13 + i) j (by omega)]; exact h4 i hi j hj
theorem tn_b1 : ∀ B, B < 32 → ∀ k, k < 5 → (nI B >>> (nI k &&& 31)) &&& 1 = if B.testBit k then 1 else 0 := by decide +kernel
theorem tn_b2 : ∀ k, k < 6 → ((1 : Int32) <<< (nI k &&& 31)) = nI (2 ^ k) := by decide +kernel
theorem tn_l {n : Nat} (h : n < 2 ^ 31) : (nI n).toInt64 = lN n := nI_l h
theorem tn_LL (n : Nat) : (OfNat.ofNat n : Int64) = lN n := rfl
theorem part6 {S : tS} (hV : tV S) {σ : tn_M} (hS : cSt S σ) {B : Nat} (hB : B < 32) (x2 : Int32) (x4 : Int64) (x6 : Int32) : ∀ d n k, k + d = sn S → d < n → F_X3_part_6 n x2 (nI B) x4 x6 (nI (tn_S (fun k => if B.testBit k then sz S k else 0) k)) (nI k) σ = F_X3_part_40 x2 (nI B) x4 x6 (nI (ssz S B)) σ := by
  have hn := hV.1
  intro d
  induction d with
  | zero =>
    intro n k h1 h2
    obtain ⟨m, rfl⟩ : ∃ m, n = m + 1 := ⟨n - 1, by omega⟩
    have : k = sn S := by omega
    subst this
    rw [F_X3_part_6, hS.1, if_pos (nI_le (Nat.le_refl _) (by omega))]
    rfl
  | succ d ih =>
    intro n k h1 h2
    obtain ⟨m, rfl⟩ : ∃ m, n = m + 1 := ⟨n - 1, by omega⟩
    rw [F_X3_part_6, hS.1, if_neg (nI_ge (by omega) (by omega)), tn_ckn (by omega) (by decide), tn_xn (by omega), (hS.2.2.1 k (by omega)).1, tn_b1 B hB k (by omega)]
    have e : nI (tn_S (fun k => if B.testBit k then sz S k else 0) k) + (if B.testBit k then 1 else 0) * nI (sz S k) = nI (tn_S (fun k => if B.testBit k then sz S k else 0) (k + 1)) := by
      show _ = nI (tn_S (fun k => if B.testBit k then sz S k else 0) k + (if B.testBit k then sz S k else 0))
      rw [← nI_add]
      congr 1
      by_cases hb : B.testBit k = true
      · simp only [hb, if_true]
        rw [tn_L 1, pk_mul, Nat.one_mul]
      · simp only [hb, Bool.false_eq_true, if_false]
        rw [tn_L 0, pk_mul, Nat.zero_mul]
    show F_X3_part_6 m x2 (nI B) x4 x6 (nI (tn_S (fun k => if B.testBit k then sz S k else 0) k) + (if B.testBit k then 1 else 0) * nI (sz S k)) (nI k + 1) σ = _
    rw [e, nI_1]
    exact ih m (k + 1) (by omega) (by omega)
/-- what part adds to a row of the table, place by place -/
def tn_col (S : tS) (B A w c : Nat) : Nat := if c < sn S then tn_sh S B A w c else if c = 5 then tn_sv S B A * w else if c = 6 then tn_sv S B A else 0
def tn_at (R : Nat) (f : Nat → Nat) (j : Nat) : Nat := if R ≤ j ∧ j < R + 7 then f (j - R) else 0
theorem part57 {S : tS} (hV : tV S) {B A w R q : Nat} (hB : B < 32) (hw : w ≤ 99) (hR : R + 7 ≤ 672) (hq : A / ssz S B = q) (h0 : ssz S B ≠ 0) : ∀ d n k (σ : tn_M), cSt S σ → k + d = sn S → d < n → tq (F_X3_part_57 n (nI R) (nI B) (lN A) (nI w) (lN q) (nI k) σ) (fun _ σ' => ∀ j, σ'.2 19 j = σ.2 19 j + lN (tn_at R (fun c => if k ≤ c then tn_col S B A w c else 0) j)) := by
  have hn := hV.1
  intro d
  induction d with
  | zero =>
    intro n k σ hS h1 h2
    obtain ⟨m, rfl⟩ : ∃ m, n = m + 1 := ⟨n - 1, by omega⟩
    have : k = sn S := by omega
    subst this
    rw [F_X3_part_57, hS.1, if_pos (nI_le (Nat.le_refl _) (by omega))]
    unfold F_X3_part_109
    rw [tn_L 5, nI_add, tn_L 6, nI_add, tn_ckn (by omega) (by decide), tn_ckn (by omega) (by decide), tn_xn (by omega)]
    refine tq_lt ?_
    rw [tn_ckn (by omega) (by decide), tn_ckn (by omega) (by decide), tn_xn (by omega)]
    refine tq_lt (tq_some (fun j => ?_))
    rw [tn_l (by omega), lN_mul]
    simp only [tn_sl_2, true_and]
    unfold tn_at tn_col tn_sv
    by_cases e6 : j = R + 6
    · subst e6
      have a1 : ¬ (R + 6 = R + 5) := by omega
      have a2 : R ≤ R + 6 ∧ R + 6 < R + 7 := by omega
      have a3 : R + 6 - R = 6 := by omega
      have a4 : ¬ 6 < sn S := by omega
      have a5 : sn S ≤ 6 := by omega
      simp [a1, a2, a3, a4, a5, h0]
    · by_cases e5 : j = R + 5
      · subst e5
        have a1 : ¬ (R + 5 = R + 6) := by omega
        have a2 : R ≤ R + 5 ∧ R + 5 < R + 7 := by omega
        have a3 : R + 5 - R = 5 := by omega
        have a4 : ¬ 5 < sn S := by omega
        have a5 : sn S ≤ 5 := by omega
        simp [a1, a2, a3, a4, a5, h0]
      · have hz : (if R ≤ j ∧ j < R + 7 then (if sn S ≤ j - R then (if j - R < sn S then tn_sh S B A w (j - R) else if j - R = 5 then (if ssz S B = 0 then 0 else A) * w else if j - R = 6 then (if ssz S B = 0 then 0 else A) else 0) else 0) else 0) = 0 := by
          split
          · split
            · rw [if_neg (by omega), if_neg (by omega), if_neg (by omega)]
            · rfl
          · rfl
        rw [hz, if_neg e6, if_neg e5]
        show σ.2 19 j = σ.2 19 j + lN 0
        rw [show lN 0 = 0 from rfl, Int64.add_zero]
  | succ d ih =>
    intro n k σ hS h1 h2
    obtain ⟨m, rfl⟩ : ∃ m, n = m + 1 := ⟨n - 1, by omega⟩
    rw [F_X3_part_57, hS.1, if_neg (nI_ge (by omega) (by omega)), tn_b1 B hB k (by omega)]
    by_cases hb : B.testBit k = true
    · rw [if_pos (by simp [hb]), nI_add, tn_ckn (by omega) (by decide), tn_ckn (by omega) (by decide), tn_ckn (by omega) (by decide), tn_xn (by omega), tn_xn (by omega), (hS.2.2.1 k (by omega)).1]
      refine tq_lt ?_
      have hz := (hV.2.2.1 k (by omega))
      rw [tn_l (by omega), tn_l (by omega), lN_mul, lN_mul, nI_1]
      refine tq_mono (ih m (k + 1) (tn_sl σ 19 (R + k) (σ.2 19 (R + k) + lN (q * sz S k * w))) (cSt_same hS (fun a b _ => by rw [tn_sl_1]) hV.2.1) (by omega) (by omega)) (fun _ σ' hq' j => ?_)
      rw [hq' j]
      simp only [tn_sl_2, true_and]
      by_cases e : j = R + k
      · subst e
        have a2 : R ≤ R + k ∧ R + k < R + 7 := by omega
        have a3 : R + k - R = k := by omega
        have a4 : ¬ k + 1 ≤ k := by omega
        have a5 : k < sn S := by omega
        unfold tn_at tn_col tn_sh
        simp only [a2, a3, a4, a5, hb, hq, and_self, if_true, if_false, Nat.le_refl]
        show _ + lN 0 = _
        rw [show lN 0 = 0 from rfl, Int64.add_zero]
      · rw [if_neg e]
        congr 2
        unfold tn_at
        split
        · have : (k + 1 ≤ j - R) ↔ (k ≤ j - R) := by omega
          simp only [this]
        · rfl
    · rw [if_neg (by simp [hb]), nI_1]
      refine tq_mono (ih m (k + 1) σ hS (by omega) (by omega)) (fun _ σ' hq' j => ?_)
      rw [hq' j]
      congr 2
      unfold tn_at
      split
      · by_cases e : j - R = k
        · have a5 : k < sn S := by omega
          simp [e, tn_col, tn_sh, hb, a5]
        · have : (k + 1 ≤ j - R) ↔ (k ≤ j - R) := by omega
          simp only [this]
      · rfl
theorem s_part {S : tS} (hV : tV S) {σ : tn_M} (hS : cSt S σ) {B A w R : Nat} (hB : B < 32) (hA : A < 2 ^ 63) (hw : w ≤ 99) (hR : R + 7 ≤ 672) : tq (f_X3_part (nI R) (nI B) (lN A) (nI w) σ) (fun _ σ' => ∀ j, σ'.2 19 j = σ.2 19 j + lN (tn_at R (tn_col S B A w) j)) := by
  have hn := hV.1
  unfold f_X3_part
  have h6 := part6 hV hS hB (nI R) (lN A) (nI w) (sn S) tn_fuel 0 (by omega) (by unfold tn_fuel; omega)
  have e0 : F_X3_part_6 tn_fuel (nI R) (nI B) (lN A) (nI w) 0 0 σ = F_X3_part_40 (nI R) (nI B) (lN A) (nI w) (nI (ssz S B)) σ := h6
  rw [e0]
  unfold F_X3_part_40
  have hs := ssz_le hV B
  by_cases h0 : ssz S B = 0
  · rw [if_pos (by rw [h0]; rfl)]
    refine tq_some (fun j => ?_)
    have : tn_at R (tn_col S B A w) j = 0 := by
      unfold tn_at tn_col tn_sh tn_sv
      simp [h0]
    rw [this, show lN 0 = 0 from rfl, Int64.add_zero]
  · rw [if_neg (nI_ne0 (by omega) (by omega))]
    have e1 : ¬ (Int32.toInt64 (nI (ssz S B))) = 0 := by
      rw [tn_l (by omega), show (0 : Int64) = lN 0 from rfl, lN_eq (by omega) (by omega)]
      exact h0
    unfold tn_dzl
    rw [if_neg e1, tn_l (by omega), pk_lDiv hA (by omega) (by omega)]
    refine tq_lt ?_
    refine tq_mono (part57 hV hB hw hR rfl h0 (sn S) tn_fuel 0 σ hS (by omega) (by unfold tn_fuel; omega)) (fun _ σ' hq j => ?_)
    rw [hq j]
    simp
