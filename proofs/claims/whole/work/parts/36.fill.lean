theorem tn_pop0 : ∀ B, B < 32 → (tn_pop B = 0 ↔ B = 0) := by decide +kernel
theorem tn_pop5 : ∀ B, B < 32 → tn_pop B ≤ 5 := by decide +kernel
theorem tn_bc : ∀ B, B < 32 → (f_J6_bitCount_0f7a4 (nI B) (fun _ _ => 0, fun _ _ => 0)).map (fun q => q.1) = some (nI (tn_pop B)) := by decide +kernel
theorem tn_bitCount {B : Nat} (hB : B < 32) (σ : tn_M) : f_J6_bitCount_0f7a4 (nI B) σ = some (nI (tn_pop B), σ) := by
  have h := tn_bc B hB
  unfold f_J6_bitCount_0f7a4 tn_lt at h ⊢
  simp only [Option.map_some, Option.some.injEq] at h
  exact congrArg (fun v => some (v, σ)) h
def tn_cc (S : tS) (light : Nat) (r : tR) (B c : Nat) : Nat := if tn_lk r B then tn_col S (tn_ahead S r) (tn_cr light B r.2.1 * 256) r.2.2.2.2.2 c
  else tn_col S B (tn_cr light B r.2.1 * tn_go r B * 16) r.2.2.2.2.2 c + tn_col S (tn_ahead S r) (tn_cr light B r.2.1 * (16 - tn_go r B) * r.2.2.2.2.1) r.2.2.2.2.2 c
theorem cc_c {S : tS} {light : Nat} {r : tR} {B c : Nat} (h : c < sn S) : tn_cc S light r B c = tn_c S light r B c := by
  unfold tn_cc tn_c tn_col
  simp only [h, if_true]
theorem cc_5 {S : tS} (hn : sn S ≤ 5) {light : Nat} {r : tR} {B : Nat} : tn_cc S light r B 5 = tn_s S light r B * r.2.2.2.2.2 := by
  have h : ¬ 5 < sn S := by omega
  unfold tn_cc tn_s tn_col
  simp only [h, if_false, if_true]
  split
  · rfl
  · rw [Nat.add_mul]
theorem cc_6 {S : tS} (hn : sn S ≤ 5) {light : Nat} {r : tR} {B : Nat} : tn_cc S light r B 6 = tn_s S light r B := by
  have h : ¬ 6 < sn S := by omega
  unfold tn_cc tn_s tn_col
  simp [h]
theorem at_add (R : Nat) (f g : Nat → Nat) (j : Nat) : tn_at R f j + tn_at R g j = tn_at R (fun c => f c + g c) j := by
  unfold tn_at
  split <;> simp
theorem tn_31 : ∀ n, n ≤ 5 → ∀ k, k < n → (31 : Nat).testBit k = (2 ^ n - 1).testBit k := by decide +kernel
theorem col_31 {S : tS} (hn : sn S ≤ 5) (A w c : Nat) : tn_col S 31 A w c = tn_col S (2 ^ sn S - 1) A w c := by
  have e : ssz S 31 = ssz S (2 ^ sn S - 1) := tn_S_congr (fun k hk => by rw [tn_31 _ hn k hk])
  unfold tn_col tn_sh tn_sv
  rw [e]
  split
  · next h => rw [tn_31 _ hn c h]
  · rfl
theorem cr_bd {light B many : Nat} (hl : light ≤ 16) (hB : B < 32) (hm : many ≤ 99) : tn_cr light B many ≤ 2854051200 := by
  unfold tn_cr
  have h5 := tn_pop5 B hB
  have h1 : light * (tn_pop B - 1) ≤ 16 * 4 := Nat.mul_le_mul hl (by omega)
  have h2 : many * (16 + light * (tn_pop B - 1)) ≤ 99 * 80 := Nat.mul_le_mul hm (by omega)
  calc many * (16 + light * (tn_pop B - 1)) * 360360 ≤ 99 * 80 * 360360 := Nat.mul_le_mul_right _ h2
    _ ≤ 2854051200 := by decide
theorem cr_mul {c x y a b : Nat} (h : c ≤ 2854051200) (hx : x ≤ a) (hy : y ≤ b) (hab : 2854051200 * a * b < 2 ^ 63) : c * x * y < 2 ^ 63 := Nat.lt_of_le_of_lt (Nat.mul_le_mul (Nat.mul_le_mul h hx) hy) hab
theorem tn_rowOf {h B : Nat} (h1 : 1 ≤ h) (h3 : h ≤ 3) (hB : B < 32) (σ : tn_M) : f_X3_rowOf (nI h) (nI B) σ = some (nI (((h - 1) * 32 + B) * 7), σ) := by
  unfold f_X3_rowOf
  rw [tn_L 1, pk_sub h1, tn_L 32, pk_mul, nI_add, tn_L 7, pk_mul]
theorem s_add {S : tS} (hV : tV S) {σ : tn_M} (hS : cSt S σ) {i B light : Nat} (hi : i < sm S) (hB : B < 2 ^ sn S) (hl : light ≤ 16) : tq (f_X3_addBuyers (12 + 1 + i) (nI B) (nI light) σ) (fun _ σ' => ∀ j, σ'.2 19 j = σ.2 19 j + lN (tn_at ((((sr S i).1 - 1) * 32 + B) * 7) (tn_cc S light (sr S i) B) j)) := by
  have hn := hV.1
  have hm := hV.2.1
  obtain ⟨v1, v2, v3, v4, v5, v6, v7, v8, v9⟩ := hV.2.2.2 i hi
  have hB32 : B < 32 := Nat.lt_of_lt_of_le hB (Nat.pow_le_pow_right (by omega) hn : 2 ^ sn S ≤ 2 ^ 5)
  have e0 : σ.1 (12 + 1 + i) 0 = nI (sr S i).1 := hS.2.2.2 i hi 0 (by omega)
  have e1 : σ.1 (12 + 1 + i) 1 = nI (sr S i).2.1 := hS.2.2.2 i hi 1 (by omega)
  have e2 : σ.1 (12 + 1 + i) 2 = tn_lki (sr S i).2.2.1 := hS.2.2.2 i hi 2 (by omega)
  have e3 : σ.1 (12 + 1 + i) 3 = nI (sr S i).2.2.2.1 := hS.2.2.2 i hi 3 (by omega)
  have e4 : σ.1 (12 + 1 + i) 4 = nI (sr S i).2.2.2.2.1 := hS.2.2.2 i hi 4 (by omega)
  have e5 : σ.1 (12 + 1 + i) 5 = nI (sr S i).2.2.2.2.2 := hS.2.2.2 i hi 5 (by omega)
  have hp := tn_pop5 B hB32
  have hcr := cr_bd hl hB32 v4
  unfold f_X3_addBuyers
  rw [e0, tn_rowOf v1 v2 hB32, tn_bds, tn_bitCount hB32, tn_bds]
  refine tq_lt (tq_lt ?_)
  have ev : (if nI (tn_pop B) = 0 then (16 : Int64) else 16 + (nI light).toInt64 * ((nI (tn_pop B)).toInt64 - 1)) = lN (16 + light * (tn_pop B - 1)) := by
    by_cases h0 : tn_pop B = 0
    · rw [if_pos (by rw [h0]; rfl), h0]
      simp
      rfl
    · rw [if_neg (nI_ne0 (by omega) (by omega)), tn_l (by omega), tn_l (by omega), tn_LL 1, lN_sub (by omega), lN_mul, tn_LL 16, lN_add]
  rw [ev, e1, tn_l (by omega), lN_mul, tn_LL 360360, lN_mul, e2]
  show tq (if tn_lki (sr S i).2.2.1 = -1 then _ else _) _
  generalize hR : (((sr S i).1 - 1) * 32 + B) * 7 = R
  have hRb : R + 7 ≤ 672 := by omega
  have ecr : (sr S i).2.1 * (16 + light * (tn_pop B - 1)) * 360360 = tn_cr light B (sr S i).2.1 := rfl
  rw [ecr]
  -- the second way, for any ahead
  have key : ∀ x9 : Int32, x9 = tn_lki (sr S i).2.2.1 → tn_lk (sr S i) B = false → tq (F_X3_addBuyers_92 (12 + 1 + i) (nI B) (nI R) (nI (tn_pop B)) (lN (tn_cr light B (sr S i).2.1)) x9 σ) (fun _ σ' => ∀ j, σ'.2 19 j = σ.2 19 j + lN (tn_at R (tn_cc S light (sr S i) B) j)) := by
    intro x9 hx9 hlk
    have hg : tn_go (sr S i) B ≤ 16 := by unfold tn_go; split <;> omega
    have e92 : F_X3_addBuyers_92 (12 + 1 + i) (nI B) (nI R) (nI (tn_pop B)) (lN (tn_cr light B (sr S i).2.1)) x9 σ = F_X3_addBuyers_104 (12 + 1 + i) (nI B) (nI R) (lN (tn_cr light B (sr S i).2.1)) x9 (nI (tn_go (sr S i) B)) σ := by
      unfold F_X3_addBuyers_92
      by_cases h0 : tn_pop B = 0
      · rw [if_pos (by rw [h0]; rfl)]
        unfold tn_go
        rw [if_pos ((tn_pop0 B hB32).mp h0)]
        rfl
      · rw [if_neg (nI_ne0 (by omega) (by omega)), e3]
        unfold tn_go
        rw [if_neg (fun q => h0 ((tn_pop0 B hB32).mpr q))]
    rw [e92]
    unfold F_X3_addBuyers_104
    rw [e5, tn_l (by omega), lN_mul, tn_LL 16, lN_mul]
    have hA1 : tn_cr light B (sr S i).2.1 * tn_go (sr S i) B * 16 < 2 ^ 63 := cr_mul hcr hg (Nat.le_refl 16) (by decide)
    refine tq_bd (tq_fr (fr_X3_part _ _ _ _ _) (s_part hV hS hB32 hA1 v9 hRb)) (fun _ σ1 hq => ?_)
    obtain ⟨hq, hf⟩ := hq
    refine tq_lt ?_
    have f4 : σ1.1 (12 + 1 + i) 4 = nI (sr S i).2.2.2.2.1 := by
      rw [hf.i _ _ (by rcases (by omega : i = 0 ∨ i = 1 ∨ i = 2 ∨ i = 3 ∨ i = 4 ∨ i = 5) with rfl | rfl | rfl | rfl | rfl | rfl <;> rfl)]; exact e4
    have f5 : σ1.1 (12 + 1 + i) 5 = nI (sr S i).2.2.2.2.2 := by
      rw [hf.i _ _ (by rcases (by omega : i = 0 ∨ i = 1 ∨ i = 2 ∨ i = 3 ∨ i = 4 ∨ i = 5) with rfl | rfl | rfl | rfl | rfl | rfl <;> rfl)]; exact e5
    have hS1 : cSt S σ1 := cSt_same hS (fun a b hab => hf.i a b (by
      unfold tn_ms
      simp
      omega)) hm
    rw [f4, f5, tn_L 16, pk_sub hg, tn_l (by omega), tn_l (by omega), lN_mul, lN_mul]
    have hA2 : tn_cr light B (sr S i).2.1 * (16 - tn_go (sr S i) B) * (sr S i).2.2.2.2.1 < 2 ^ 63 := cr_mul hcr (Nat.sub_le 16 _) v7 (by decide)
    have hah : ∃ D, D < 32 ∧ (if x9 = -1 then (31 : Int32) else 1 <<< (x9 &&& 31)) = nI D ∧ ∀ A w c, tn_col S D A w c = tn_col S (tn_ahead S (sr S i)) A w c := by
      cases ho : (sr S i).2.2.1 with
      | none =>
        rw [ho] at hx9
        refine ⟨31, by omega, by rw [hx9]; rfl, fun A w c => ?_⟩
        rw [col_31 hn]
        simp only [tn_ahead, ho]
      | some l =>
        have hl2 := v5 l ho
        rw [ho] at hx9
        have hx : x9 = nI l := hx9
        refine ⟨2 ^ l, Nat.lt_of_le_of_lt (Nat.pow_le_pow_right (by omega) (by omega : l ≤ 4)) (by decide), ?_, fun A w c => ?_⟩
        · rw [hx, if_neg (tn_m1ne (by omega)), tn_b2 l (by omega)]
        · simp only [tn_ahead, ho]
    obtain ⟨D, hD, eD, hcol⟩ := hah
    rw [eD]
    refine tq_bd (s_part hV hS1 hD hA2 v9 hRb) (fun _ σ2 hq2 => tq_some (fun j => ?_))
    rw [hq2 j, hq j, Int64.add_assoc, lN_add, at_add]
    unfold tn_cc
    simp only [hlk, hcol, Bool.false_eq_true, if_false]
  cases ho : (sr S i).2.2.1 with
  | none =>
    rw [if_pos (show tn_lki none = -1 from rfl)]
    have hk := key (tn_lki none) (by rw [ho]) (by simp only [tn_lk, ho])
    exact hk
  | some l =>
    have hl2 := v5 l ho
    have el : tn_lki (some l) = nI l := rfl
    rw [el, if_neg (tn_m1ne (by omega)), tn_b1 B hB32 l (by omega)]
    by_cases hb : B.testBit l = true
    · rw [if_pos (by simp [hb]), tn_b2 l (by omega), e5, tn_LL 256, lN_mul]
      have hA : tn_cr light B (sr S i).2.1 * 256 < 2 ^ 63 := by
        have := cr_mul hcr (Nat.le_refl 256) (Nat.le_refl 1) (by decide)
        omega
      refine tq_bd (s_part hV hS (Nat.lt_of_le_of_lt (Nat.pow_le_pow_right (by omega) (by omega : l ≤ 4)) (by decide)) hA v9 hRb) (fun _ σ1 hq => tq_some (fun j => ?_))
      rw [hq j]
      congr 2
      unfold tn_cc
      simp only [tn_lk, tn_ahead, ho, hb, if_true]
    · rw [if_neg (by simp [hb])]
      exact key (nI l) (by rw [ho]; rfl) (by simp only [tn_lk, ho]; exact Bool.eq_false_iff.mpr hb)

/-! the table whole -/
def tn_T1 (S : tS) (light i h B c : Nat) : Nat := tn_S (fun i => if (sr S i).1 = h then tn_cc S light (sr S i) B c else 0) i
def cTb (S : tS) (light : Nat) (σ : tn_M) : Prop := ∀ h B c, 1 ≤ h → h ≤ 3 → B < 2 ^ sn S → c < 7 → σ.2 19 (((h - 1) * 32 + B) * 7 + c) = lN (tn_T1 S light (sm S) h B c)
theorem s_fillJ : ∀ d n k (σ : tn_M), k + d = 672 → d < n → (∀ j, j < k → σ.2 19 j = 0) → tq (F_J7_fill_d0a16_6 n 0 (nI k) 672 σ) (fun _ σ' => ∀ j, j < 672 → σ'.2 19 j = 0) := by
  intro d
  induction d with
  | zero =>
    intro n k σ h1 h2 h3
    obtain ⟨m, rfl⟩ : ∃ m, n = m + 1 := ⟨n - 1, by omega⟩
    have : k = 672 := by omega
    subst this
    rw [F_J7_fill_d0a16_6, if_pos (by decide)]
    exact tq_some h3
  | succ d ih =>
    intro n k σ h1 h2 h3
    obtain ⟨m, rfl⟩ : ∃ m, n = m + 1 := ⟨n - 1, by omega⟩
    rw [F_J7_fill_d0a16_6, tn_L 672, if_neg (nI_ge (by omega) (by omega)), tn_ckn (by omega) (by decide), tn_xn (by omega), nI_1]
    refine tq_lt (ih m (k + 1) _ (by omega) (by omega) (fun j hj => ?_))
    rw [tn_sl_2]
    by_cases e : j = k
    · rw [if_pos ⟨rfl, e⟩]
    · rw [if_neg (fun q => e q.2)]
      exact h3 j (by omega)
theorem s_fill35 {S : tS} (hV : tV S) {i light : Nat} (hi : i < sm S) (hl : light ≤ 16) {Q : Unit → tn_M → Prop} (c23 : Int32 → Int32 → Int32 → tn_M → Option (Unit × tn_M)) (hc : ∀ σ, cSt S σ → (∀ h B c, 1 ≤ h → h ≤ 3 → B < 2 ^ sn S → c < 7 → σ.2 19 (((h - 1) * 32 + B) * 7 + c) = lN (tn_T1 S light (i + 1) h B c)) → tq (c23 (nI light) (nI (2 ^ sn S)) (nI (i + 1)) σ) Q) : ∀ d n b (σ : tn_M), b + d = 2 ^ sn S → d < n → cSt S σ → (∀ h B c, 1 ≤ h → h ≤ 3 → B < 2 ^ sn S → c < 7 → σ.2 19 (((h - 1) * 32 + B) * 7 + c) = lN (tn_T1 S light i h B c + if (sr S i).1 = h ∧ B < b then tn_cc S light (sr S i) B c else 0)) → tq (F_X3_fill_35 c23 n (nI light) (nI (2 ^ sn S)) (nI i) (nI b) σ) Q := by
  have hn := hV.1
  have hm := hV.2.1
  have hp : 2 ^ sn S ≤ 32 := (Nat.pow_le_pow_right (by omega) hn : 2 ^ sn S ≤ 2 ^ 5)
  intro d
  induction d with
  | zero =>
    intro n b σ h1 h2 hS h3
    obtain ⟨m, rfl⟩ : ∃ m, n = m + 1 := ⟨n - 1, by omega⟩
    have : b = 2 ^ sn S := by omega
    subst this
    rw [F_X3_fill_35, if_pos (nI_le (Nat.le_refl _) (by omega)), nI_1]
    refine hc σ hS (fun h B c a1 a2 a3 a4 => ?_)
    rw [h3 h B c a1 a2 a3 a4]
    simp only [a3, and_true]
    rfl
  | succ d ih =>
    intro n b σ h1 h2 hS h3
    obtain ⟨m, rfl⟩ : ∃ m, n = m + 1 := ⟨n - 1, by omega⟩
    rw [F_X3_fill_35, if_neg (nI_ge (by omega) (by omega)), tn_ckn (by omega) (by decide), tn_xn (by omega)]
    refine tq_bd (tq_fr (fr_X3_addBuyers _ _ _ _) (s_add hV hS hi (by omega) hl)) (fun _ σ1 hq => ?_)
    obtain ⟨hq, hf⟩ := hq
    rw [nI_1]
    have hS1 : cSt S σ1 := cSt_same hS (fun a b hab => hf.i a b (by
      unfold tn_ms
      simp
      omega)) hm
    refine ih m (b + 1) σ1 (by omega) (by omega) hS1 (fun h B c a1 a2 a3 a4 => ?_)
    rw [hq, h3 h B c a1 a2 a3 a4, lN_add]
    congr 1
    obtain ⟨v1, v2, -⟩ := hV.2.2.2 i hi
    unfold tn_at
    by_cases e : (sr S i).1 = h
    · by_cases eB : B = b
      · subst eB
        have c1 : (((sr S i).1 - 1) * 32 + B) * 7 ≤ ((h - 1) * 32 + B) * 7 + c ∧ ((h - 1) * 32 + B) * 7 + c < (((sr S i).1 - 1) * 32 + B) * 7 + 7 := by rw [e]; omega
        have c2 : ((h - 1) * 32 + B) * 7 + c - (((sr S i).1 - 1) * 32 + B) * 7 = c := by rw [e]; omega
        rw [if_pos c1, c2, if_neg (by omega), if_pos ⟨e, by omega⟩]
        omega
      · have c1 : ¬ ((((sr S i).1 - 1) * 32 + b) * 7 ≤ ((h - 1) * 32 + B) * 7 + c ∧ ((h - 1) * 32 + B) * 7 + c < (((sr S i).1 - 1) * 32 + b) * 7 + 7) := by rw [e]; omega
        rw [if_neg c1]
        have : (B < b + 1) ↔ (B < b) := by omega
        simp only [this]
        omega
    · have c1 : ¬ ((((sr S i).1 - 1) * 32 + b) * 7 ≤ ((h - 1) * 32 + B) * 7 + c ∧ ((h - 1) * 32 + B) * 7 + c < (((sr S i).1 - 1) * 32 + b) * 7 + 7) := by omega
      rw [if_neg c1]
      simp only [e, false_and, if_false]
theorem s_fill23 {S : tS} (hV : tV S) {light : Nat} (hl : light ≤ 16) : ∀ d n i (σ : tn_M), i + d = sm S → d < n → cSt S σ → (∀ h B c, 1 ≤ h → h ≤ 3 → B < 2 ^ sn S → c < 7 → σ.2 19 (((h - 1) * 32 + B) * 7 + c) = lN (tn_T1 S light i h B c)) → tq (F_X3_fill_23 n (nI light) (nI (2 ^ sn S)) (nI i) σ) (fun _ σ' => cTb S light σ') := by
  have hn := hV.1
  have hm := hV.2.1
  have hp : 2 ^ sn S ≤ 32 := (Nat.pow_le_pow_right (by omega) hn : 2 ^ sn S ≤ 2 ^ 5)
  intro d
  induction d with
  | zero =>
    intro n i σ h1 h2 hS h3
    obtain ⟨m, rfl⟩ : ∃ m, n = m + 1 := ⟨n - 1, by omega⟩
    have : i = sm S := by omega
    subst this
    rw [F_X3_fill_23, hS.2.1, if_pos (nI_le (Nat.le_refl _) (by omega))]
    exact tq_some h3
  | succ d ih =>
    intro n i σ h1 h2 hS h3
    obtain ⟨m, rfl⟩ : ∃ m, n = m + 1 := ⟨n - 1, by omega⟩
    rw [F_X3_fill_23, hS.2.1, if_neg (nI_ge (by omega) (by omega))]
    refine s_fill35 hV (by omega) hl _ (fun σ' hS' h3' => ih m (i + 1) σ' (by omega) (by omega) hS' h3') (2 ^ sn S) tn_fuel 0 σ (by omega) (by unfold tn_fuel; omega) hS (fun h B c a1 a2 a3 a4 => ?_)
    rw [h3 h B c a1 a2 a3 a4]
    simp
theorem s_fill {S : tS} (hV : tV S) {light : Nat} (hl : light ≤ 16) {σ : tn_M} (hS : cSt S σ) : tq (f_X3_fill (nI light) σ) (fun _ σ' => cTb S light σ' ∧ σ'.1 2 1 = 0 ∧ tn_fr [(2, 1), (19, 999)] σ σ') := by
  have hn := hV.1
  have hm := hV.2.1
  have key : tq (f_X3_fill (nI light) σ) (fun _ σ' => cTb S light σ' ∧ σ'.1 2 1 = 0) := by
    unfold f_X3_fill
    refine tq_lt ?_
    refine tq_bd (tq_fr (fr_J7_fill_d0a16 _ _) (s_fillJ 672 tn_fuel 0 (tn_si σ 2 1 0) (by omega) (by unfold tn_fuel; omega) (fun j hj => by omega))) (fun _ σ2 hq => ?_)
    obtain ⟨hz, hf⟩ := hq
    refine tq_lt ?_
    have hS2 : cSt S σ2 := cSt_same hS (fun a b hab => by
      rw [hf.i a b (by unfold tn_ms; simp; omega), tn_si_1, if_neg (by omega)]) hm
    rw [hS2.1, tn_b2 _ (by omega)]
    refine tq_mono (tq_fr (fr_X3_fill_23 _ _ _ _ _) (s_fill23 hV hl (sm S) tn_fuel 0 σ2 (by omega) (by unfold tn_fuel; omega) hS2 (fun h B c a1 a2 a3 a4 => ?_))) (fun _ σ' h => ⟨h.1, ?_⟩)
    · have hp : 2 ^ sn S ≤ 32 := (Nat.pow_le_pow_right (by omega) hn : 2 ^ sn S ≤ 2 ^ 5)
      rw [hz _ (by omega)]
      rfl
    · rw [h.2.i 2 1 rfl, hf.i 2 1 rfl]
      rfl
  exact tq_mono (tq_fr (fr_X3_fill _ _) key) (fun _ σ' h => ⟨h.1.1, h.1.2, h.2⟩)
