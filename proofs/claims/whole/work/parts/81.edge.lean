/-! the call: edge -/
section EL
variable {A : tA} {S : tS} {hb u lim : Nat → Nat} {held : Int32} {σ : tn_M}
theorem sh_bd (hV : tV S) {B a w k : Nat} (hk : k < sn S) (hw : w ≤ 99) : tn_sh S B a w k ≤ a * 297 := by
  unfold tn_sh
  split
  · have h3 := (hV.2.2.1 k hk).2.1
    have h1 : a / ssz S B ≤ a := Nat.div_le_self _ _
    have h4 := Nat.mul_le_mul (Nat.mul_le_mul h1 h3) hw
    omega
  · omega
theorem go_16 {r : tR} {n B : Nat} (h : tVR n r) : tn_go r B ≤ 16 := by
  have := h.2.2.2.2.2.1
  unfold tn_go
  split <;> omega
theorem c_bd (hV : tV S) {light i B k : Nat} (hl : light ≤ 16) (hi : i < sm S) (hB : B < 32) (hk : k < sn S) : tn_c S light (sr S i) B k ≤ 2 ^ 49 := by
  have hr := hV.2.2.2 i hi
  have hw : (sr S i).2.2.2.2.2 ≤ 99 := hr.2.2.2.2.2.2.2.2
  have hm : (sr S i).2.1 ≤ 99 := hr.2.2.2.1
  have hbk : (sr S i).2.2.2.2.1 ≤ 16 := hr.2.2.2.2.2.2.1
  have hg := go_16 (B := B) hr
  have hc := cr_bd (light := light) (B := B) (many := (sr S i).2.1) hl hB hm
  unfold tn_c
  split
  · have := sh_bd hV (B := tn_ahead S (sr S i)) (a := tn_cr light B (sr S i).2.1 * 256) hk hw
    omega
  · have a1 := sh_bd hV (B := B) (a := tn_cr light B (sr S i).2.1 * tn_go (sr S i) B * 16) hk hw
    have a2 := sh_bd hV (B := tn_ahead S (sr S i)) (a := tn_cr light B (sr S i).2.1 * (16 - tn_go (sr S i) B) * (sr S i).2.2.2.2.1) hk hw
    have b1 : tn_cr light B (sr S i).2.1 * tn_go (sr S i) B ≤ 2854051200 * 16 := Nat.mul_le_mul hc hg
    have b2 : tn_cr light B (sr S i).2.1 * (16 - tn_go (sr S i) B) * (sr S i).2.2.2.2.1 ≤ 2854051200 * 16 * 16 := Nat.mul_le_mul (Nat.mul_le_mul hc (by omega)) hbk
    omega
theorem inc_bd (hV : tV S) {light k : Nat} (hl : light ≤ 16) (h8 : ∀ h, 1 ≤ h → h ≤ 3 → hb h ≤ 8) (hk : k < sn S) (v : Nat → Nat) : tn_inc S light hb v k < 2 ^ 56 := by
  have hn := hV.1
  have hm := hV.2.1
  have h1 : tn_inc S light hb v k ≤ sm S * (2 ^ 49 * 16) := by
    unfold tn_inc
    refine tn_S_le (fun i hi => ?_)
    have hr := hV.2.2.2 i hi
    exact Nat.mul_le_mul (c_bd hV hl hi (mk_32 hn _ _) hk) (by have := h8 (sr S i).1 hr.1 hr.2.1; omega)
  have h2 : sm S * (2 ^ 49 * 16) ≤ 6 * (2 ^ 49 * 16) := Nat.mul_le_mul_right _ hm
  omega
/-- what is brought by hours v; the fine by hours v -/
def tn_iv (S : tS) (l : Nat) (hb u : Nat → Nat) (k v : Nat) : Nat := tn_inc S l hb (va_up u k v) k
def tn_fv (S : tS) (c m f k v : Nat) : Nat := if c < v ∧ m < sz S k then f else 0
theorem fv_0 (c m f k : Nat) : tn_fv S c m f k 0 = 0 := by
  unfold tn_fv
  rw [if_neg (by omega)]
theorem fv_le (c m f k v : Nat) : tn_fv S c m f k v ≤ f := by
  unfold tn_fv
  split <;> omega
theorem lN_subT {a b : Nat} (ha : a < 2 ^ 62) (hb : b < 2 ^ 62) : (lN a - lN b).toInt = (a : Int) - b := by
  rw [Int64.toInt_sub, pk_lT (by omega), pk_lT (by omega)]
  exact Int.bmod_eq_of_le (by omega) (by omega)
theorem bu_n {l c m f k v K : Nat} {F : Int64} {P : Nat → Nat} (hK : K = 11808276480) (hF : F = lN f) : tn_bu (S, l, c, m, F, P) k v = lN (P k * v * K + tn_fv S c m f k v) := by
  subst hK
  subst hF
  unfold tn_bu tn_fv
  by_cases w : c < v ∧ m < sz S k
  · rw [if_pos w, if_pos w, lN_add]
  · rw [if_neg w, if_neg w, Int64.add_zero, Nat.add_zero]
theorem ea_n {l c m f k v K : Nat} {F : Int64} {P : Nat → Nat} (hK : K = 11808276480) (hF : F = lN f) : tn_ea (S, l, c, m, F, P) hb (va_up u k v) k = lN (tn_iv S l hb u k v) - lN (P k * v * K + tn_fv S c m f k v) := by
  have e1 : va_up u k v k = v := if_pos rfl
  have e2 : tn_ea (S, l, c, m, F, P) hb (va_up u k v) k = lN (tn_iv S l hb u k v) - tn_bu (S, l, c, m, F, P) k (va_up u k v k) := rfl
  rw [e2, e1, bu_n hK hF]
theorem i64_e (i a g j : Int64) : i - (a + g) + a - j = i - (g + j) := by grind
theorem s_ceil2 {a b B : Nat} (ha : a < 2 ^ 62) (hb : b < 2 ^ 62) (hB : B < 2 ^ 63) (σ : tn_M) : f_X4_ceiling (lN a - lN b) (lN B) σ = some (lN (tn_ce (a - b) B), σ) := by
  by_cases c : b ≤ a
  · rw [lN_sub c]
    exact s_ceil (by omega) hB σ
  · have e0 : a - b = 0 := by omega
    have t0 : (0 : Int64).toInt = 0 := rfl
    unfold f_X4_ceiling
    rw [if_pos (by rw [tn_le64, lN_subT ha hb]; omega), e0]
    rfl
def tn_cw (S : tS) (l c m f K : Nat) (hb u : Nat → Nat) (k v : Nat) : Nat := tn_ce (tn_iv S l hb u k v - (tn_fv S c m f k v + tn_iv S l hb u k 0)) (v * K)
def tn_sp (g : Nat → Nat) : Nat → Nat → Nat → Nat
  | 0, _, x => x
  | d + 1, h, x => tn_sp g d (h + 1) (if g h < x then x else g h)
theorem sp_le (g : Nat → Nat) (p : Nat) : ∀ d h x, tn_sp g d h x ≤ p ↔ (x ≤ p ∧ ∀ j, h ≤ j → j < h + d → g j ≤ p)
  | 0, h, x => ⟨fun w => ⟨w, fun j h1 h2 => by omega⟩, fun w => w.1⟩
  | d + 1, h, x => by
    unfold tn_sp
    rw [sp_le g p d (h + 1)]
    constructor
    · rintro ⟨w1, w2⟩
      have : x ≤ p ∧ g h ≤ p := by
        by_cases c : g h < x
        · rw [if_pos c] at w1; omega
        · rw [if_neg c] at w1; omega
      refine ⟨this.1, fun j h1 h2 => ?_⟩
      by_cases e : j = h
      · rw [e]; exact this.2
      · exact w2 j (by omega) (by omega)
    · rintro ⟨w1, w2⟩
      refine ⟨?_, fun j h1 h2 => w2 j (by omega) (by omega)⟩
      have := w2 h (by omega) (by omega)
      split <;> omega
theorem sp_lt (g : Nat → Nat) {N : Nat} (hg : ∀ j, g j < N) : ∀ d h x, x < N → tn_sp g d h x < N
  | 0, _, _, hx => hx
  | d + 1, h, x, hx => by
    unfold tn_sp
    refine sp_lt g hg d (h + 1) _ ?_
    have := hg h
    split <;> omega
end EL
section EM
variable {A : tA} {S : tS} {hb u lim : Nat → Nat} {held : Int32} {σ : tn_M} {l c m f K : Nat} {F : Int64} {P : Nat → Nat}
theorem cw_lt (hV : tVe (S, l, c, m, F, P)) (h8 : ∀ h, 1 ≤ h → h ≤ 3 → hb h ≤ 8) {k : Nat} (hk : k < sn S) (j : Nat) : tn_cw S l c m f K hb u k j < 2 ^ 63 := by
  have h1 := inc_bd hV.1 hV.2.1 h8 hk (va_up u k j)
  have e1 : tn_iv S l hb u k j = tn_inc S l hb (va_up u k j) k := rfl
  unfold tn_cw
  refine ce_lt ?_
  have h1 : tn_iv S l hb u k j < 2 ^ 56 := h1
  omega
theorem k_shut (hV : tVe (S, l, c, m, F, P)) (hK : K = 11808276480) (hF : F = lN f) (hf : f ≤ 2 ^ 44) (h : kC A (S, l, c, m, F, P) hb u lim held σ) {k : Nat} (hk : k < sn S) : tq (f_X0_shuttingPrice (nI k) σ) (fun r σ' => r = lN (tn_sp (tn_cw S l c m f K hb u k) 3 1 0) ∧ CI A σ') := by
  have hn : sn S ≤ 5 := hV.1.1
  have h8 : ∀ h, 1 ≤ h → h ≤ 3 → hb h ≤ 8 := fun j a b => h.1.h8 a b
  have hL : (11808276480 : Int64) = lN K := by rw [hK]; rfl
  have hlt := cw_lt (f := f) (K := K) (u := u) hV h8 hk
  have hp : P k ≤ 99 := hV.2.2.2.2 k hk
  unfold f_X0_shuttingPrice
  refine tq_bd (k_weigh hV h (k := k) hk) (fun _ σ1 ⟨q1, q2⟩ => ?_)
  have e11 : σ1.1 11 k = nI (P k) := by
    have e1 : σ1.1 11 k = nI (sc S k) := (q2.1.st.2.2.1 k hk).2
    have e2 : P k = sc S k := q2.1.pr k
    rw [e2]; exact e1
  have b0 : tn_iv S l hb u k 0 < 2 ^ 56 := inc_bd hV.1 hV.2.1 h8 hk _
  have o0 : σ1.2 25 0 = lN (tn_iv S l hb u k 0) := by
    rw [q1 0 (by omega), ea_n hK hF, fv_0, Nat.mul_zero, Nat.zero_mul, show lN (0 + 0) = 0 from rfl, Int64.sub_zero]
  have lp : ∀ d n j x, j + d = 4 → d < n → 1 ≤ j → x < 2 ^ 63 → F_X0_shuttingPrice_10 n (nI k) (lN x) (nI j) σ1 = some (lN (tn_sp (tn_cw S l c m f K hb u k) d j x), σ1) := by
    intro d
    induction d with
    | zero =>
      intro n j x h1 h2 h3 h4
      obtain ⟨w, rfl⟩ : ∃ w, n = w + 1 := ⟨n - 1, by omega⟩
      have : j = 4 := by omega
      subst this
      rw [F_X0_shuttingPrice_10, if_pos (by decide)]
      rfl
    | succ d ih =>
      intro n j x h1 h2 h3 h4
      obtain ⟨w, rfl⟩ : ∃ w, n = w + 1 := ⟨n - 1, by omega⟩
      have bj : tn_iv S l hb u k j < 2 ^ 56 := inc_bd hV.1 hV.2.1 h8 hk _
      have bf := fv_le (S := S) c m f k j
      have pj : P k * j < 2 ^ 31 := by
        have : P k * j ≤ 99 * 3 := Nat.mul_le_mul hp (by omega)
        omega
      have ev : σ1.2 25 j + lN (P k * j * K) - lN (tn_iv S l hb u k 0) = lN (tn_iv S l hb u k j) - lN (tn_fv S c m f k j + tn_iv S l hb u k 0) := by
        rw [q1 j (by omega), ea_n hK hF, ← lN_add (P k * j * K), ← lN_add (tn_fv S c m f k j)]
        exact i64_e _ _ _ _
      have bK : j * K < 2 ^ 63 := by
        have : j * K ≤ 3 * K := Nat.mul_le_mul_right K (by omega)
        omega
      have hg := hlt j
      have cc : tn_ce (tn_iv S l hb u k j - (tn_fv S c m f k j + tn_iv S l hb u k 0)) (j * K) = tn_cw S l c m f K hb u k j := rfl
      rw [F_X0_shuttingPrice_10, tn_L 3, if_neg (nI_nlt (by omega) (by omega)), tn_ckn (show k < 5 by omega) (by decide), tn_xn (show k < 2 ^ 31 by omega), e11, pk_mul, tn_l pj, hL, lN_mul, tn_l (show j < 2 ^ 31 by omega), lN_mul, o0, nI_1, tn_xn (show j < 2 ^ 31 by omega)]
      unfold tn_lt
      dsimp only
      rw [tn_ckn (show j < 4 by omega) (by decide), ev, s_ceil2 (by omega) (by omega) bK, tn_bds, cc]
      have ex : (if lN (tn_cw S l c m f K hb u k j) < lN x then lN x else lN (tn_cw S l c m f K hb u k j)) = lN (if tn_cw S l c m f K hb u k j < x then x else tn_cw S l c m f K hb u k j) := by
        by_cases z : tn_cw S l c m f K hb u k j < x
        · rw [if_pos ((pk_lLT hg h4).mpr z), if_pos z]
        · rw [if_neg (fun y => z ((pk_lLT hg h4).mp y)), if_neg z]
      rw [ex]
      unfold tn_sp
      exact ih w (j + 1) _ (by omega) (by omega) (by omega) (by split <;> omega)
  exact ⟨_, _, lp 3 tn_fuel 1 0 (by omega) (by unfold tn_fuel; omega) (by omega) (by omega), rfl, q2.2⟩
theorem an_0 (o : Nat → Int64) : ∀ L, tn_an o L = 0 ↔ ∀ v, v ≤ L → o v ≤ o 0
  | 0 => ⟨fun _ v hv => by
      have : v = 0 := by omega
      rw [this]; exact Int64.le_refl _, fun _ => rfl⟩
  | L + 1 => by
    have ih := an_0 o L
    constructor
    · intro w v hv
      have := an_max o (L + 1) v hv
      rw [w] at this
      exact this
    · intro w
      have h0 := ih.mpr (fun v hv => w v (by omega))
      have h1 := w (L + 1) (Nat.le_refl _)
      unfold tn_an
      rw [h0, if_neg]
      rw [tn_lt64]
      rw [tn_le64] at h1
      omega
theorem mTr_46 {L : Nat} {fixed : Int32} (h : mTr (S, l, c, m, F, P) hb u L fixed σ) {k p : Nat} : mTr (S, l, c, m, F, va_up P k p) hb u L fixed (tn_si σ 46 k (nI p)) := by
  obtain ⟨p1, p2, p3, p4, p5, p6, p7, p8, p9, p10⟩ := h
  have ee : ∀ a b, a ≠ 46 → (tn_si σ 46 k (nI p)).1 a b = σ.1 a b := fun a b hab => by rw [tn_si_1, if_neg (by omega)]
  refine ⟨mSt_same p1 (fun a b hab => ee a b (by omega)), by rw [ee _ _ (by omega)]; exact p2, by rw [ee _ _ (by omega)]; exact p3, by rw [ee _ _ (by omega)]; exact p4, fun k hk => by rw [ee _ _ (by omega)]; exact p5 k hk, fun k h1 h3 => by rw [ee _ _ (by omega)]; exact p6 k h1 h3, fun j hj => ?_, by rw [ee _ _ (by omega)]; exact p8, by rw [ee _ _ (by omega)]; exact p9, ?_⟩
  · show _ = nI (va_up P k p j)
    rw [tn_si_1, up_nI]
    by_cases w : j = k
    · rw [if_pos ⟨rfl, w⟩, if_pos w]
    · rw [if_neg (fun z => w z.2), if_neg w]; exact p7 j hj
  · unfold mFi at *
    rw [ee 5 18 (by omega), ee 41 3 (by omega), ee 41 4 (by omega)]
    exact p10
theorem rp_0 (hV : tVe (S, l, c, m, F, P)) (h8 : ∀ h, 1 ≤ h → h ≤ 3 → hb h ≤ 8) (hK : K = 11808276480) (hF : F = lN f) (hf : f ≤ 2 ^ 44) {k : Nat} (hk : k < sn S) : tn_rp (S, l, c, m, F, P) hb u (tn_lm (S, l, c, m, F, P) 3) k = 0 ↔ tn_sp (tn_cw S l c m f K hb u k) 3 1 0 ≤ P k := by
  have hp : P k ≤ 99 := hV.2.2.2.2 k hk
  have b : ∀ j, tn_iv S l hb u k j < 2 ^ 56 := fun j => inc_bd hV.1 hV.2.1 h8 hk _
  unfold tn_rp
  rw [lm3, an_0, sp_le]
  have key : ∀ v, 1 ≤ v → v ≤ 3 → ((tn_ea (S, l, c, m, F, P) hb (va_up u k v) k ≤ tn_ea (S, l, c, m, F, P) hb (va_up u k 0) k) ↔ tn_cw S l c m f K hb u k v ≤ P k) := by
    intro v h1 h3
    have bv := b v
    have b0 := b 0
    have bf := fv_le (S := S) c m f k v
    have hKv : 0 < v * K := Nat.mul_pos (by omega) (by omega)
    have pv : P k * v * K = P k * (v * K) := Nat.mul_assoc _ _ _
    have bp : P k * (v * K) ≤ 99 * (3 * K) := Nat.mul_le_mul hp (Nat.mul_le_mul_right K (by omega))
    rw [ea_n hK hF, ea_n hK hF, fv_0, Nat.mul_zero, Nat.zero_mul, pv, tn_le64, lN_subT (by omega) (by omega), lN_subT (by omega) (by omega)]
    unfold tn_cw
    rw [ce_le hKv]
    omega
  constructor
  · intro w
    refine ⟨by omega, fun j h1 h2 => (key j h1 (by omega)).mp (w j (by omega))⟩
  · rintro ⟨_, w⟩ v hv
    rcases Nat.eq_zero_or_pos v with z | z
    · rw [z]; exact Int64.le_refl _
    · exact (key v z hv).mpr (w v z (by omega))
theorem m_edge17 (hK : K = 11808276480) (hF : F = lN f) (hf : f ≤ 2 ^ 44) (h8 : ∀ h, 1 ≤ h → h ≤ 3 → hb h ≤ 8) {k : Nat} (hk : k < sn S) : ∀ d n p (P : Nat → Nat) (τ : tn_M), p + d = 100 → d < n → tVe (S, l, c, m, F, P) → kM A (S, l, c, m, F, P) hb u 3 (-1) τ → (∀ q, q < p → ¬ tn_sp (tn_cw S l c m f K hb u k) 3 1 0 ≤ q) → tq (F_X5_edge_17 n (nI k) (nI p) τ) (fun r σ' => r = (if tn_sp (tn_cw S l c m f K hb u k) 3 1 0 ≤ 99 then nI (tn_sp (tn_cw S l c m f K hb u k) 3 1 0) else -1) ∧ M0 A σ') := by
  intro d
  induction d with
  | zero =>
    intro n p P τ h1 h2 hV q hq
    obtain ⟨w, rfl⟩ : ∃ w, n = w + 1 := ⟨n - 1, by omega⟩
    have : p = 100 := by omega
    subst this
    rw [F_X5_edge_17, if_pos (by decide), if_neg (hq 99 (by omega))]
    exact tq_some ⟨rfl, q.2⟩
  | succ d ih =>
    intro n p P τ h1 h2 hV q hq
    obtain ⟨w, rfl⟩ : ∃ w, n = w + 1 := ⟨n - 1, by omega⟩
    have hn := hV.1.1
    have hn : sn S ≤ 5 := hn
    have hP : ∀ j, j < sn S → va_up P k p j ≤ 99 := by
      intro j hj
      unfold va_up
      split
      · omega
      · exact hV.2.2.2.2 j hj
    have hV2 : tVe (S, l, c, m, F, va_up P k p) := ⟨hV.1, hV.2.1, hV.2.2.1, hV.2.2.2.1, hP⟩
    have ep : va_up P k p k = p := if_pos rfl
    have hr := rp_0 (u := u) hV2 h8 hK hF hf hk
    rw [ep] at hr
    have q2 : kM A (S, l, c, m, F, va_up P k p) hb u 3 (-1) (tn_si τ 46 k (nI p)) := ⟨mTr_46 q.1, M0_sub (S := [(46, 999)]) q.2 (tn_fr.si (by simp [tn_ms]) tn_fr.rf) (by decide)⟩
    rw [F_X5_edge_17, tn_L 100, if_neg (nI_ge (by omega) (by omega)), tn_ckn (show k < 5 by omega) (by decide), tn_xn (by omega), nI_1]
    refine tq_lt (tq_bd (m_answerOf hV2 q2 (k := k) hk) (fun r τ1 ⟨q3, q4⟩ => ?_))
    have r3 : tn_rp (S, l, c, m, F, va_up P k p) hb u (tn_lm (S, l, c, m, F, va_up P k p) 3) k ≤ 3 := by
      unfold tn_rp
      rw [lm3]
      exact an_le _ 3
    rw [q3]
    by_cases z : tn_rp (S, l, c, m, F, va_up P k p) hb u (tn_lm (S, l, c, m, F, va_up P k p) 3) k = 0
    · have hz := hr.mp z
      have e1 : tn_sp (tn_cw S l c m f K hb u k) 3 1 0 = p := by
        rcases Nat.lt_or_ge (tn_sp (tn_cw S l c m f K hb u k) 3 1 0) p with y | y
        · exact absurd (Nat.le_refl _) (hq _ y)
        · omega
      rw [z, if_pos nI_zero, e1, if_pos (by omega)]
      exact tq_some ⟨rfl, q4.2⟩
    · rw [if_neg (nI_ne0 (by omega) (by omega))]
      refine ih w (p + 1) _ τ1 (by omega) (by omega) hV2 q4 (fun y hy => ?_)
      by_cases e1 : y = p
      · rw [e1]; exact fun x => z (hr.mpr x)
      · exact hq y (by omega)
end EM
section EN
variable {A : tA} {σ : tn_M}
theorem c_edge (hA : tW A) (x : Int32) : tn_P A A (f_X4_edge x) (f_X5_edge x) := by
  have hn := hN_ok
  have g3 := hA.2.1 3 (by omega)
  have g4 := hA.2.1 4 (by omega)
  obtain ⟨f, hf⟩ : ∃ f, f = aG A 3 * aG A 4 * 738017280 := ⟨_, rfl⟩
  have hfb : f ≤ 2 ^ 44 := by
    have h1 : aG A 3 * aG A 4 ≤ 999 * 16 := Nat.mul_le_mul (by omega) (by omega)
    have h2 : aG A 3 * aG A 4 * 738017280 ≤ 999 * 16 * 738017280 := Nat.mul_le_mul_right _ h1
    omega
  obtain ⟨F, hF⟩ : ∃ F, F = lN (aG A 3 * aG A 4 * 738017280) := ⟨_, rfl⟩
  have hFf : F = lN f := by rw [hF, hf]
  have eA : tn_eA A = (tn_SA A, aG A 0, aG A 1, aG A 2, F, sc (tn_SA A)) := by rw [hF]; rfl
  obtain ⟨K, hK⟩ : ∃ K : Nat, K = 11808276480 := ⟨_, rfl⟩
  have hV := tVe_A hA
  rw [eA] at hV
  have h8 : ∀ h, 1 ≤ h → h ≤ 3 → tn_hA A h ≤ 8 := fun h a b => hA_8 hA a b
  rcases shop_cases A x with c | ⟨k, hk, rfl, c⟩
  · refine ⟨-2, fun σ h => ?_, fun σ h => ?_⟩
    · unfold f_X4_edge
      rw [s_noShop h.2.2.1, tn_bds, if_neg c, if_neg (by decide)]
      exact tq_some ⟨rfl, h⟩
    · unfold f_X5_edge
      refine tq_bd (s_isShop hA h x) (fun r σ1 ⟨q1, _, q3⟩ => ?_)
      rw [q1, if_neg c, if_pos rfl]
      exact tq_some ⟨rfl, q3⟩
  · obtain ⟨y, hy⟩ : ∃ y, y = tn_sp (tn_cw (tn_SA A) (aG A 0) (aG A 1) (aG A 2) f K (tn_hA A) (aH A) k) 3 1 0 := ⟨_, rfl⟩
    have hy63 : y < 2 ^ 63 := by
      rw [hy]
      exact sp_lt _ (fun j => cw_lt (f := f) (K := K) hV h8 hk j) 3 1 0 (by omega)
    refine ⟨if y ≤ 99 then nI y else -1, fun σ h => ?_, fun σ h => ?_⟩
    · unfold f_X4_edge
      rw [s_noShop h.2.2.1, tn_bds, if_pos c, if_pos rfl]
      refine tq_bd (k_scene hA h) (fun _ σ1 q => ?_)
      rw [eA] at q
      refine tq_bd (k_shut hV hK hFf hfb q hk) (fun r σ2 ⟨q1, q2⟩ => ?_)
      rw [← hy] at q1
      rw [q1, lN_i]
      refine tq_lt (tq_some ⟨?_, q2⟩)
      have e9 : (99 : Int64) = lN 99 := rfl
      rw [e9]
      by_cases z : y ≤ 99
      · rw [if_pos ((pk_lLE hy63 (by omega)).mpr z), if_pos z]
      · rw [if_neg (fun w => z ((pk_lLE hy63 (by omega)).mp w)), if_neg z]
    · unfold f_X5_edge
      refine tq_bd (s_isShop hA h _) (fun r σ1 ⟨q1, _, q3⟩ => ?_)
      rw [q1, if_pos c, if_neg (by decide)]
      refine tq_bd (m_tries hA q3) (fun _ σ2 q => ?_)
      rw [eA] at q
      rw [hy]
      exact m_edge17 hK hFf hfb h8 hk 100 tn_fuel 0 _ σ2 (by omega) (by unfold tn_fuel; omega) hV q (fun q hq => absurd hq (Nat.not_lt_zero q))
end EN
