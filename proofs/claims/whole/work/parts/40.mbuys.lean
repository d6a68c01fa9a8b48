section MB
variable {e : tEc} {hb u : Nat → Nat} {lim : Nat} {fixed : Int32} {σ : tn_M}
theorem ssz_mk {S : tS} (hV : tV S) {h : Nat} (h0 : tn_mk (sn S) u h ≠ 0) : ssz S (tn_mk (sn S) u h) ≠ 0 := by
  intro hs
  apply h0
  rw [mk_0]
  intro k hk hu
  have := ssz_bit hV hk (B := tn_mk (sn S) u h) (by rw [mk_bit]; simp [hk, hu])
  omega
theorem tn_p1 : ∀ n, n ≤ 5 → 1 ≤ n → (2 ^ n - 1).testBit 0 = true := by decide +kernel
theorem ssz_0 (S : tS) : ssz S 0 = 0 := by
  unfold ssz
  simp [tn_S_0]
theorem s_buys (hV : tVe e) (hs : mTr e hb u lim fixed σ) {i : Nat} (hi : i < sm (eS e)) : tq (f_X5_buys (nI i) σ) (fun _ σ' => (∀ k, k < sn (eS e) → σ'.2 47 k = σ.2 47 k + lN (tn_c (eS e) (eL e) (sr (eS e) i) (tn_mk (sn (eS e)) u (sr (eS e) i).1) k * (8 + hb (sr (eS e) i).1))) ∧ σ'.2 5 23 = σ.2 5 23 + lN (tn_s (eS e) (eL e) (sr (eS e) i) (tn_mk (sn (eS e)) u (sr (eS e) i).1) * (8 + hb (sr (eS e) i).1))) := by
  have hn := hV.1.1
  have hm := hV.1.2.1
  have hl := hV.2.1
  obtain ⟨v1, v2, v3, v4, v5, v6, v7, v8, v9⟩ := hV.1.2.2.2 i hi
  have ht := hs.st
  have e0 : σ.1 40 (6 * i) = nI (sr (eS e) i).1 := ht.2.2.2 i hi 0 (by omega)
  have e1 : σ.1 40 (6 * i + 1) = nI (sr (eS e) i).2.1 := ht.2.2.2 i hi 1 (by omega)
  have e2 : σ.1 40 (6 * i + 2) = tn_lki (sr (eS e) i).2.2.1 := ht.2.2.2 i hi 2 (by omega)
  have e3 : σ.1 40 (6 * i + 3) = nI (sr (eS e) i).2.2.2.1 := ht.2.2.2 i hi 3 (by omega)
  have e4 : σ.1 40 (6 * i + 4) = nI (sr (eS e) i).2.2.2.2.1 := ht.2.2.2 i hi 4 (by omega)
  have e5 : σ.1 40 (6 * i + 5) = nI (sr (eS e) i).2.2.2.2.2 := ht.2.2.2 i hi 5 (by omega)
  have h8 := hs.h8 v1 v2
  have mlt := mk_lt u (sr (eS e) i).1 (sn (eS e))
  have hB32 : tn_mk (sn (eS e)) u (sr (eS e) i).1 < 32 := Nat.lt_of_lt_of_le mlt (Nat.pow_le_pow_right (by omega) hn : 2 ^ sn (eS e) ≤ 2 ^ 5)
  have hB0 := @ssz_mk u (eS e) hV.1 (sr (eS e) i).1
  unfold f_X5_buys
  rw [tn_L 6, pk_mul, tn_ckn (by omega) (by decide), tn_xn (by omega), e0]
  refine tq_lt ?_
  rw [tn_L 2, nI_add, tn_ckn (by omega) (by decide), tn_xn (by omega), e2]
  refine tq_lt ?_
  rw [tn_L 5, nI_add, tn_ckn (by omega) (by decide), tn_xn (by omega), e5]
  refine tq_lt ?_
  rw [s_openIn hV hs (by omega), tn_bds, s_ones hB32, tn_bds]
  generalize hBe : tn_mk (sn (eS e)) u (sr (eS e) i).1 = B at mlt hB32 hB0 ⊢
  have hp := tn_pop5 B hB32
  have hcr := cr_bd hl hB32 v4
  generalize hrr : sr (eS e) i = r at *
  have hlm : eL e * (tn_pop B - 1) ≤ 16 * 4 := Nat.mul_le_mul hl (by omega)
  have e69 : (if nI (tn_pop B) ≤ 1 then F_X5_buys_69 (nI (6 * i)) (nI r.1) (tn_lki r.2.2.1) (nI r.2.2.2.2.2) (nI B) 16 0 σ else F_X5_buys_69 (nI (6 * i)) (nI r.1) (tn_lki r.2.2.1) (nI r.2.2.2.2.2) (nI B) 16 (σ.1 41 0 * (nI (tn_pop B) - 1)) σ) = F_X5_buys_69 (nI (6 * i)) (nI r.1) (tn_lki r.2.2.1) (nI r.2.2.2.2.2) (nI B) (nI 16) (nI (eL e * (tn_pop B - 1))) σ := by
    by_cases c : tn_pop B ≤ 1
    · rw [tn_L 1, if_pos (nI_le c (by omega)), show tn_pop B - 1 = 0 by omega, Nat.mul_zero]
      rfl
    · rw [tn_L 1, if_neg (nI_ge (by omega) (by omega)), hs.lig, pk_sub (by omega), pk_mul]
      rfl
  rw [e69]
  unfold F_X5_buys_69
  rw [nI_1, tn_ckn (by omega) (by decide), tn_ckn (by omega) (by decide), tn_xn (by omega), tn_xn (by omega), e1, hs.ha v1 v2, nI_add, tn_L 8, nI_add, tn_l (by omega), tn_l (by omega), tn_l (by omega), lN_mul, lN_mul]
  refine tq_lt ?_
  -- amounts
  have am : ∀ x y : Nat, r.2.1 * (16 + eL e * (tn_pop B - 1)) * (8 + hb r.1) * x * y * 360360 = tn_cr (eL e) B r.2.1 * x * y * (8 + hb r.1) := by
    intro x y
    unfold tn_cr
    ac_rfl
  have am1 : ∀ x : Nat, r.2.1 * (16 + eL e * (tn_pop B - 1)) * (8 + hb r.1) * x * 360360 = tn_cr (eL e) B r.2.1 * x * (8 + hb r.1) := by
    intro x
    unfold tn_cr
    ac_rfl
  have lt63 : ∀ x y : Nat, x ≤ 16 → y ≤ 16 → tn_cr (eL e) B r.2.1 * x * y * (8 + hb r.1) < 2 ^ 63 := by
    intro x y hx hy
    exact Nat.lt_of_le_of_lt (Nat.mul_le_mul (Nat.mul_le_mul (Nat.mul_le_mul hcr hx) hy) (by omega : 8 + hb r.1 ≤ 16)) (by decide)
  -- the second way
  have key : tn_lk r B = false → tq (F_X5_buys_136 (nI (6 * i)) (tn_lki r.2.2.1) (nI r.2.2.2.2.2) (nI B) (lN (r.2.1 * (16 + eL e * (tn_pop B - 1)) * (8 + hb r.1))) σ) (fun _ σ' => (∀ k, k < sn (eS e) → σ'.2 47 k = σ.2 47 k + lN (tn_c (eS e) (eL e) r B k * (8 + hb r.1))) ∧ σ'.2 5 23 = σ.2 5 23 + lN (tn_s (eS e) (eL e) r B * (8 + hb r.1))) := by
    intro hlk
    have hg : tn_go r B ≤ 16 := by unfold tn_go; split <;> omega
    have e136 : F_X5_buys_136 (nI (6 * i)) (tn_lki r.2.2.1) (nI r.2.2.2.2.2) (nI B) (lN (r.2.1 * (16 + eL e * (tn_pop B - 1)) * (8 + hb r.1))) σ = F_X5_buys_153 (nI (6 * i)) (tn_lki r.2.2.1) (nI r.2.2.2.2.2) (nI B) (lN (r.2.1 * (16 + eL e * (tn_pop B - 1)) * (8 + hb r.1))) (nI (tn_go r B)) σ := by
      unfold F_X5_buys_136
      by_cases c : B = 0
      · rw [if_pos (by rw [c]; rfl)]
        unfold tn_go
        rw [if_pos c]
        rfl
      · rw [if_neg (nI_ne0 (by omega) (by omega)), tn_L 3, nI_add, tn_ckn (by omega) (by decide), tn_xn (by omega), e3]
        unfold tn_go
        rw [if_neg c]
    rw [e136]
    -- from 182 on
    have k182 : ∀ τ : tn_M, mSt (eS e) τ → τ.1 40 (6 * i + 4) = nI r.2.2.2.2.1 → tq (F_X5_buys_182 (nI (6 * i)) (tn_lki r.2.2.1) (nI r.2.2.2.2.2) (lN (r.2.1 * (16 + eL e * (tn_pop B - 1)) * (8 + hb r.1))) (nI (tn_go r B)) τ) (fun _ σ' => (∀ k, k < sn (eS e) → σ'.2 47 k = τ.2 47 k + lN (tn_sh (eS e) (tn_ahead (eS e) r) (tn_cr (eL e) B r.2.1 * (16 - tn_go r B) * r.2.2.2.2.1) r.2.2.2.2.2 k * (8 + hb r.1))) ∧ σ'.2 5 23 = τ.2 5 23 + lN (tn_sv (eS e) (tn_ahead (eS e) r) (tn_cr (eL e) B r.2.1 * (16 - tn_go r B) * r.2.2.2.2.1) * (8 + hb r.1))) := by
      intro τ hτ h4
      unfold F_X5_buys_182
      rw [tn_L 4, nI_add, tn_ckn (by omega) (by decide), tn_xn (by omega), h4, tn_L 16, pk_sub hg, tn_l (by omega), tn_l (by omega), lN_mul, lN_mul, tn_LL 360360, lN_mul, am]
      refine tq_lt (tq_lt ?_)
      have hah : ∃ D, D < 32 ∧ D = tn_ahead (eS e) r ∧ (if tn_lki r.2.2.1 = -1 then (1 <<< (τ.1 5 8 &&& 31) : Int32) - 1 else 1 <<< (tn_lki r.2.2.1 &&& 31)) = nI D ∧ (D = 0 ∨ ssz (eS e) D ≠ 0) := by
        cases ho : r.2.2.1 with
        | none =>
          have hpw := Nat.pow_le_pow_right (n := 2) (by omega) hn
          refine ⟨2 ^ sn (eS e) - 1, by omega, by simp only [tn_ahead, ho], ?_, ?_⟩
          · rw [if_pos (show tn_lki none = -1 from rfl), hτ.1, tn_b2 _ (by omega), show (1 : Int32) = nI 1 from rfl, pk_sub (Nat.one_le_two_pow)]
          · by_cases hz : sn (eS e) = 0
            · left; rw [hz]
            · right
              have := ssz_bit hV.1 (k := 0) (by omega) (tn_p1 _ hn (by omega))
              omega
        | some l =>
          have hl2 := v5 l ho
          have el : tn_lki (some l) = nI l := rfl
          refine ⟨2 ^ l, Nat.lt_of_le_of_lt (Nat.pow_le_pow_right (by omega) (by omega : l ≤ 4)) (by decide), by simp only [tn_ahead, ho], ?_, Or.inr ?_⟩
          · rw [el, if_neg (tn_m1ne (by omega)), tn_b2 l (by omega)]
          · have := ssz_bit hV.1 (B := 2 ^ l) hl2 (by simp)
            omega
      obtain ⟨D, hD, eD1, eD, hDs⟩ := hah
      rw [eD, ← eD1]
      by_cases c : D = 0
      · rw [if_pos (by rw [c]; rfl)]
        refine tq_some ⟨fun k hk => ?_, ?_⟩
        · have : tn_sh (eS e) D (tn_cr (eL e) B r.2.1 * (16 - tn_go r B) * r.2.2.2.2.1) r.2.2.2.2.2 k = 0 := by
            unfold tn_sh
            rw [c]
            simp
          rw [this, Nat.zero_mul, show lN 0 = 0 from rfl, Int64.add_zero]
        · have : tn_sv (eS e) D (tn_cr (eL e) B r.2.1 * (16 - tn_go r B) * r.2.2.2.2.1) = 0 := by
            unfold tn_sv
            rw [c, if_pos (ssz_0 _)]
          rw [this, Nat.zero_mul, show lN 0 = 0 from rfl, Int64.add_zero]
      · rw [if_neg (nI_ne0 (by omega) (by omega))]
        have hDs := hDs.resolve_left c
        refine tq_bd (s_parts hV.1 hτ hD (lt63 _ _ (by omega) v7) v9) (fun _ σ1 hq => tq_some ⟨fun k hk => ?_, ?_⟩)
        · rw [hq.1 k hk, sh_mul (8 + hb r.1) (fun h0 => by rw [Nat.mul_assoc]; exact cr_dvd hV.1 _ _ _ _ _ h0)]
        · rw [hq.2.1]
          unfold tn_sv
          rw [if_neg hDs]
    unfold F_X5_buys_153
    by_cases c : tn_go r B = 0
    · rw [c, if_pos (by decide), ← c]
      refine tq_mono (k182 σ ht e4) (fun _ σ' hq => ⟨fun k hk => ?_, ?_⟩)
      · rw [hq.1 k hk]
        congr 2
        unfold tn_c
        have z : tn_sh (eS e) B (tn_cr (eL e) B r.2.1 * tn_go r B * 16) r.2.2.2.2.2 k = 0 := by
          unfold tn_sh
          rw [c]
          simp
        simp only [hlk, Bool.false_eq_true, if_false, z, Nat.zero_add]
      · rw [hq.2]
        congr 2
        unfold tn_s
        have z : tn_sv (eS e) B (tn_cr (eL e) B r.2.1 * tn_go r B * 16) = 0 := by
          unfold tn_sv
          rw [c]
          simp
        simp only [hlk, Bool.false_eq_true, if_false, z, Nat.zero_add]
    · have hBn : B ≠ 0 := by
        intro q
        apply c
        unfold tn_go
        rw [if_pos q]
      have hBs := hB0 hBn
      rw [if_neg (nI_nle (by omega) (by omega)), tn_l (by omega), lN_mul, tn_LL 16, lN_mul, tn_LL 360360, lN_mul, am]
      refine tq_bd (s_parts hV.1 ht hB32 (lt63 _ _ hg (by omega)) v9) (fun _ σ1 hq => ?_)
      obtain ⟨q1, q2, qf⟩ := hq
      have ht1 : mSt (eS e) σ1 := mSt_same ht (fun a b hab => qf.i a b (by unfold tn_ms; simp; omega))
      refine tq_mono (k182 σ1 ht1 (by rw [qf.i 40 _ rfl]; exact e4)) (fun _ σ' hq' => ⟨fun k hk => ?_, ?_⟩)
      · rw [hq'.1 k hk, q1 k hk, Int64.add_assoc, lN_add, sh_mul (8 + hb r.1) (fun h0 => by rw [Nat.mul_assoc]; exact cr_dvd hV.1 _ _ _ _ _ h0), ← Nat.add_mul]
        congr 2
        unfold tn_c
        simp only [hlk, Bool.false_eq_true, if_false]
      · rw [hq'.2, q2, Int64.add_assoc, lN_add]
        have z : tn_sv (eS e) B (tn_cr (eL e) B r.2.1 * tn_go r B * 16) = tn_cr (eL e) B r.2.1 * tn_go r B * 16 := by
          unfold tn_sv
          rw [if_neg hBs]
        rw [← Nat.add_mul]
        congr 2
        unfold tn_s
        simp only [hlk, Bool.false_eq_true, if_false, z]
  cases ho : r.2.2.1 with
  | none =>
    rw [if_pos (show tn_lki none = -1 from rfl)]
    have hk := key (by simp only [tn_lk, ho])
    rw [ho] at hk
    exact hk
  | some l =>
    have hl2 := v5 l ho
    have el : tn_lki (some l) = nI l := rfl
    rw [el, if_neg (tn_m1ne (by omega)), tn_b1 B hB32 l (by omega)]
    by_cases hb2 : B.testBit l = true
    · rw [if_pos (by simp [hb2]), tn_b2 l (by omega), tn_LL 256, lN_mul, tn_LL 360360, lN_mul, am1]
      have hs2 := ssz_bit hV.1 (B := 2 ^ l) hl2 (by simp)
      have hA : tn_cr (eL e) B r.2.1 * 256 * (8 + hb r.1) < 2 ^ 63 := Nat.lt_of_le_of_lt (Nat.mul_le_mul (Nat.mul_le_mul hcr (Nat.le_refl 256)) (by omega : 8 + hb r.1 ≤ 16)) (by decide)
      refine tq_bd (s_parts hV.1 ht (Nat.lt_of_le_of_lt (Nat.pow_le_pow_right (by omega) (by omega : l ≤ 4)) (by decide)) hA v9) (fun _ σ1 hq => tq_some ⟨fun k hk => ?_, ?_⟩)
      · rw [hq.1 k hk, sh_mul (8 + hb r.1) (fun h0 => cr_dvd hV.1 _ _ _ _ _ h0)]
        congr 3
        unfold tn_c
        simp only [tn_lk, tn_ahead, ho, hb2, if_true]
      · rw [hq.2.1]
        congr 3
        unfold tn_s tn_sv
        simp only [tn_lk, tn_ahead, ho, hb2, if_true]
        rw [if_neg (by omega)]
    · rw [if_neg (by simp [hb2])]
      have hk := key (by simp only [tn_lk, ho]; exact Bool.eq_false_iff.mpr hb2)
      rw [ho] at hk
      exact hk
end MB
