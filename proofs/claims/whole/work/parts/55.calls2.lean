/-! the calls: still, best, loss -/
theorem pf_pf (n c c' : Nat) (u : Nat → Nat) : tn_pf n c (tn_pf n c' u) = tn_pf n c u := by
  funext j
  unfold tn_pf
  by_cases h : j < n
  · rw [if_pos h, if_pos h]
  · rw [if_neg h, if_neg h, if_neg h]
theorem p4 {n : Nat} (hn : n ≤ 5) : 4 ^ n ≤ 1024 := Nat.pow_le_pow_right (by omega) hn
def tn_sq (e : tEc) (hb u : Nat → Nat) (a1 : Int32) (a2 : Nat) : Nat → Nat → Nat → Int32
  | 0, _, x => if a1 = -1 then nI x else -1
  | d + 1, c, x => if tn_stl e hb (tn_pf (sn (eS e)) c u) then (if nI x = a1 then nI (tn_pf (sn (eS e)) c u a2) else tn_sq e hb u a1 a2 d (c + 1) (x + 1)) else tn_sq e hb u a1 a2 d (c + 1) x
theorem stl_m1 (e : tEc) (hb u : Nat → Nat) (hn : sn (eS e) ≤ 5) : tn_lki (tn_fg (tn_gn e hb (tn_lm e 3) u) 0 (sn (eS e))) = -1 ↔ tn_stl e hb u = true := by
  have key : ∀ d k, k + d = sn (eS e) → ∀ j, tn_fg (tn_gn e hb (tn_lm e 3) u) k d = some j → j < sn (eS e) := by
    intro d
    induction d with
    | zero => intro k _ j h; simp [tn_fg] at h
    | succ d ih =>
      intro k hk j h
      unfold tn_fg at h
      split at h
      · have := Option.some.inj h; omega
      · exact ih (k + 1) (by omega) j h
  unfold tn_stl
  cases h : tn_fg (tn_gn e hb (tn_lm e 3) u) 0 (sn (eS e)) with
  | none => simp [tn_lki]
  | some j =>
    have := key _ 0 (by omega) j h
    constructor
    · intro q; exact absurd q (tn_m1ne (by omega))
    · intro q; simp at q
section CB
variable {A : tA} {e : tEc} {hb u : Nat → Nat} {held : Int32} {σ : tn_M}
theorem k_cs20 (hV : tVe e) : ∀ d n c x (τ : tn_M), c + d = 4 ^ sn (eS e) → d < n → x ≤ c → kC A e hb (tn_pf (sn (eS e)) c u) (tn_lm e 3) held τ → tq (F_X4_countStill_20 n (nI (4 ^ sn (eS e))) (nI x) (nI c) τ) (fun r σ' => r = tn_sq e hb u (-1) 0 d c x ∧ CI A σ') := by
  have hn := hV.1.1
  have h4 := p4 hn
  intro d
  induction d with
  | zero =>
    intro n c x τ h1 h2 h3 q
    obtain ⟨m, rfl⟩ : ∃ m, n = m + 1 := ⟨n - 1, by omega⟩
    rw [F_X4_countStill_20, if_pos (nI_le (by omega) (by omega))]
    exact tq_some ⟨rfl, q.2⟩
  | succ d ih =>
    intro n c x τ h1 h2 h3 q
    obtain ⟨m, rfl⟩ : ∃ m, n = m + 1 := ⟨n - 1, by omega⟩
    rw [F_X4_countStill_20, if_neg (nI_ge (by omega) (by omega))]
    refine tq_bd (k_firstGainer hV q) (fun r τ1 ⟨q1, q2⟩ => ?_)
    rw [q1]
    have es := stl_m1 e hb (tn_pf (sn (eS e)) c u) hn
    unfold tn_sq
    cases hb' : tn_stl e hb (tn_pf (sn (eS e)) c u) with
    | true =>
      rw [if_pos (es.mpr hb'), if_pos rfl, if_neg (tn_m1ne (by omega)), nI_1]
      unfold F_X4_countStill_37
      refine tq_bd (k_advance hV q2) (fun _ τ2 q3 => ?_)
      rw [nI_1]
      rw [av_pf] at q3
      exact ih m (c + 1) (x + 1) τ2 (by omega) (by omega) (by omega) q3
    | false =>
      rw [if_neg (fun w => by rw [es.mp w] at hb'; exact absurd hb' (by decide)), if_neg (by decide)]
      unfold F_X4_countStill_37
      refine tq_bd (k_advance hV q2) (fun _ τ2 q3 => ?_)
      rw [nI_1]
      rw [av_pf] at q3
      exact ih m (c + 1) x τ2 (by omega) (by omega) (by omega) q3
theorem k_still52 (hV : tVe e) {x1 : Int32} (hx1 : x1 ≠ -1) {k : Nat} (hk : k < sn (eS e)) : ∀ d n c x (τ : tn_M), c + d = 4 ^ sn (eS e) → d < n → x ≤ c → kC A e hb (tn_pf (sn (eS e)) c u) (tn_lm e 3) held τ → tq (F_X4_still_52 n x1 (nI k) (nI (4 ^ sn (eS e))) (nI x) (nI c) τ) (fun r σ' => r = tn_sq e hb u x1 k d c x ∧ CI A σ') := by
  have hn := hV.1.1
  have h4 := p4 hn
  intro d
  induction d with
  | zero =>
    intro n c x τ h1 h2 h3 q
    obtain ⟨m, rfl⟩ : ∃ m, n = m + 1 := ⟨n - 1, by omega⟩
    rw [F_X4_still_52, if_pos (nI_le (by omega) (by omega))]
    unfold tn_sq
    rw [if_neg hx1]
    exact tq_some ⟨rfl, q.2⟩
  | succ d ih =>
    intro n c x τ h1 h2 h3 q
    obtain ⟨m, rfl⟩ : ∃ m, n = m + 1 := ⟨n - 1, by omega⟩
    rw [F_X4_still_52, if_neg (nI_ge (by omega) (by omega))]
    refine tq_bd (k_firstGainer hV q) (fun r τ1 ⟨q1, q2⟩ => ?_)
    rw [q1]
    have es := stl_m1 e hb (tn_pf (sn (eS e)) c u) hn
    unfold tn_sq
    cases hb' : tn_stl e hb (tn_pf (sn (eS e)) c u) with
    | true =>
      rw [if_pos (es.mpr hb'), if_pos rfl]
      by_cases cx : nI x = x1
      · rw [if_pos cx, if_pos cx, tn_ckn (by omega) (by decide), tn_xn (by omega), q2.1.un (by omega)]
        exact tq_some ⟨rfl, q2.2⟩
      · rw [if_neg cx, if_neg cx, nI_1]
        unfold F_X4_still_83
        refine tq_bd (k_advance hV q2) (fun _ τ2 q3 => ?_)
        rw [nI_1]
        rw [av_pf] at q3
        exact ih m (c + 1) (x + 1) τ2 (by omega) (by omega) (by omega) q3
    | false =>
      rw [if_neg (fun w => by rw [es.mp w] at hb'; exact absurd hb' (by decide)), if_neg (by decide)]
      unfold F_X4_still_83
      refine tq_bd (k_advance hV q2) (fun _ τ2 q3 => ?_)
      rw [nI_1]
      rw [av_pf] at q3
      exact ih m (c + 1) x τ2 (by omega) (by omega) (by omega) q3
theorem m_stillOf9 (hV : tVe e) {x1 x2 : Int32} {k : Nat} (hx : x1 = -1 ∨ (k < sn (eS e) ∧ x2 = nI k)) {L : Nat} {fixed : Int32} : ∀ d n c x (v : Nat → Nat) (τ : tn_M), c + d = 4 ^ sn (eS e) → d < n → x ≤ c → kM A e hb v L fixed τ → (∀ c, tn_pf (sn (eS e)) c v = tn_pf (sn (eS e)) c u) → tq (F_X5_stillOf_9 n x1 x2 (nI x) (nI c) τ) (fun r σ' => r = tn_sq e hb u x1 k d c x ∧ M0 A σ') := by
  have hn := hV.1.1
  have h4 := p4 hn
  intro d
  induction d with
  | zero =>
    intro n c x v τ h1 h2 h3 q hv
    obtain ⟨m, rfl⟩ : ∃ m, n = m + 1 := ⟨n - 1, by omega⟩
    rw [F_X5_stillOf_9, q.1.st.1, tn_4n _ hn, if_pos (nI_le (by omega) (by omega))]
    exact tq_some ⟨rfl, q.2⟩
  | succ d ih =>
    intro n c x v τ h1 h2 h3 q hv
    obtain ⟨m, rfl⟩ : ∃ m, n = m + 1 := ⟨n - 1, by omega⟩
    rw [F_X5_stillOf_9, q.1.st.1, tn_4n _ hn, if_neg (nI_ge (by omega) (by omega))]
    refine tq_bd (m_lays hV q (c := c) (by omega)) (fun _ τ1 q1 => tq_bd (m_isStill hV q1) (fun r τ2 ⟨q2, q3⟩ => ?_))
    rw [hv] at q2 q3
    have hv' : ∀ c', tn_pf (sn (eS e)) c' (tn_pf (sn (eS e)) c u) = tn_pf (sn (eS e)) c' u := fun c' => pf_pf _ _ _ _
    rw [q2]
    unfold tn_sq
    cases hb' : tn_stl e hb (tn_pf (sn (eS e)) c u) with
    | false =>
      rw [if_pos (by decide), if_neg (by decide), nI_1]
      exact ih m (c + 1) x _ τ2 (by omega) (by omega) (by omega) q3 hv'
    | true =>
      rw [if_neg (by decide), if_pos rfl]
      by_cases cx : nI x = x1
      · rw [if_pos cx, if_pos cx]
        rcases hx with hx | ⟨hx, hx2⟩
        · rw [hx] at cx; exact absurd cx (tn_m1ne (by omega))
        · rw [hx2, tn_ckn (by omega) (by decide), tn_xn (by omega), q3.1.un (by omega)]
          exact tq_some ⟨rfl, q3.2⟩
      · rw [if_neg cx, if_neg cx, nI_1, nI_1]
        exact ih m (c + 1) (x + 1) _ τ2 (by omega) (by omega) (by omega) q3 hv'
def tn_sA (A : tA) (x1 : Int32) (k : Nat) : Int32 := tn_sq (tn_eA A) (tn_hA A) (aH A) x1 k (4 ^ sn (tn_SA A)) 0 0
theorem k_countStill (hA : tW A) (h : CI A σ) : tq (f_X4_countStill σ) (fun r σ' => r = tn_sA A (-1) 0 ∧ CI A σ') := by
  have hV := tVe_A hA
  have h4 := p4 hV.1.1
  have h4' : 4 ^ sn (tn_SA A) = 4 ^ sn (eS (tn_eA A)) := rfl
  unfold f_X4_countStill
  refine tq_bd (k_scene hA h) (fun _ σ1 q => ?_)
  rw [s_profiles hV q.1, tn_bds]
  exact tq_bd (k_place hV q (c := 0) (by omega)) (fun _ σ2 q2 => k_cs20 hV _ tn_fuel 0 0 σ2 (by omega) (by unfold tn_fuel; omega) (by omega) q2)
theorem m_stillOf (hA : tW A) {x1 x2 : Int32} {k : Nat} (hx : x1 = -1 ∨ (k < sn (tn_SA A) ∧ x2 = nI k)) (h : M0 A σ) : tq (f_X5_stillOf x1 x2 σ) (fun r σ' => r = tn_sA A x1 k ∧ M0 A σ') := by
  have hV := tVe_A hA
  have h4 := p4 hV.1.1
  have h4' : 4 ^ sn (tn_SA A) = 4 ^ sn (eS (tn_eA A)) := rfl
  unfold f_X5_stillOf
  exact tq_bd (m_tries hA h) (fun _ σ1 q => m_stillOf9 hV hx _ tn_fuel 0 0 _ σ1 (by omega) (by unfold tn_fuel; omega) (by omega) q (fun _ => rfl))
theorem c_still (hA : tW A) (x y : Int32) : tn_P A A (f_X4_still x y) (f_X5_still x y) := by
  have hV := tVe_A hA
  have h4 := p4 hV.1.1
  have h4' : 4 ^ sn (tn_SA A) = 4 ^ sn (eS (tn_eA A)) := rfl
  have t0 : (0 : Int32).toInt = 0 := rfl
  have tm : (-1 : Int32).toInt = -1 := rfl
  by_cases c1 : x = -1
  · subst c1
    by_cases c2 : y = -1
    · subst c2
      refine ⟨tn_sA A (-1) 0, fun σ h => ?_, fun σ h => ?_⟩
      · unfold f_X4_still
        rw [if_pos rfl, if_pos rfl]
        exact tq_bd (k_countStill hA h) (fun r σ1 q => tq_some q)
      · unfold f_X5_still
        rw [if_pos rfl, if_pos rfl]
        unfold F_X5_still_35
        rw [if_neg (by decide)]
        exact tq_bd (m_stillOf hA (Or.inl rfl) h) (fun r σ1 q => tq_some q)
    · refine ⟨-2, fun σ h => ?_, fun σ h => ?_⟩
      · unfold f_X4_still
        rw [if_pos rfl, if_neg c2]
        unfold F_X4_still_15
        rw [if_pos (by decide)]
        exact tq_some ⟨rfl, h⟩
      · unfold f_X5_still
        rw [if_pos rfl, if_neg c2]
        unfold F_X5_still_35
        rw [if_pos rfl]
        exact tq_some ⟨rfl, h⟩
  · by_cases c2 : x < 0
    · refine ⟨-2, fun σ h => ?_, fun σ h => ?_⟩
      · unfold f_X4_still
        rw [if_neg c1]
        unfold F_X4_still_15
        rw [if_pos c2]
        exact tq_some ⟨rfl, h⟩
      · unfold f_X5_still
        rw [if_neg c1, if_pos c2]
        exact tq_some ⟨rfl, h⟩
    · rcases shop_cases A y with c | ⟨k, hk, rfl, c⟩
      · refine ⟨-2, fun σ h => ?_, fun σ h => ?_⟩
        · unfold f_X4_still
          rw [if_neg c1]
          unfold F_X4_still_15
          rw [if_neg c2, s_noShop h.2.2.1, tn_bds, if_neg c, if_neg (by decide)]
          exact tq_some ⟨rfl, h⟩
        · unfold f_X5_still
          rw [if_neg c1, if_neg c2]
          refine tq_bd (s_isShop hA h _) (fun r σ1 ⟨q1, _, q3⟩ => ?_)
          rw [q1, if_neg c, if_pos rfl]
          exact tq_some ⟨rfl, q3⟩
      · refine ⟨tn_sA A x k, fun σ h => ?_, fun σ h => ?_⟩
        · unfold f_X4_still
          rw [if_neg c1]
          unfold F_X4_still_15
          rw [if_neg c2, s_noShop h.2.2.1, tn_bds, if_pos c, if_pos rfl]
          refine tq_bd (k_scene hA h) (fun _ σ1 q => ?_)
          rw [s_profiles hV q.1, tn_bds]
          exact tq_bd (k_place hV q (c := 0) (by omega)) (fun _ σ2 q2 => k_still52 hV c1 hk _ tn_fuel 0 0 σ2 (by omega) (by unfold tn_fuel; omega) (by omega) q2)
        · unfold f_X5_still
          rw [if_neg c1, if_neg c2]
          refine tq_bd (s_isShop hA h _) (fun r σ1 ⟨q1, _, q3⟩ => ?_)
          rw [q1, if_pos c, if_neg (by decide)]
          unfold F_X5_still_35
          rw [if_neg (by decide)]
          exact tq_bd (m_stillOf hA (Or.inr ⟨hk, rfl⟩) q3) (fun r σ1 q => tq_some q)
/-! the best profile -/
def tn_bq (e : tEc) (hb u : Nat → Nat) (w : Nat) : Nat → Nat → Nat → Int64 → Nat × Int64
  | 0, _, b, x => (b, x)
  | d + 1, c, b, x => if tn_aim e hb (tn_pf (sn (eS e)) c u) w ≤ x then tn_bq e hb u w d (c + 1) b x else tn_bq e hb u w d (c + 1) c (tn_aim e hb (tn_pf (sn (eS e)) c u) w)
theorem bq_lt (e : tEc) (hb u : Nat → Nat) (w N : Nat) : ∀ d c b x, c + d ≤ N → b ≤ N → (tn_bq e hb u w d c b x).1 ≤ N := by
  intro d
  induction d with
  | zero => intro c b x h1 h2; exact h2
  | succ d ih =>
    intro c b x h1 h2
    unfold tn_bq
    split
    · exact ih _ _ _ (by omega) h2
    · exact ih _ _ _ (by omega) (by omega)
theorem k_best26 (hV : tVe e) {w : Nat} (hw : w < 2) {lim : Nat → Nat} : ∀ d n c b (x : Int64) (τ : tn_M), c + d = 4 ^ sn (eS e) → d < n → kC A e hb (tn_pf (sn (eS e)) c u) lim held τ → tq (F_X4_bestCode_26 n (nI w) (nI (4 ^ sn (eS e))) (nI b) x (nI c) τ) (fun r σ' => r = nI (tn_bq e hb u w d c b x).1 ∧ kC A e hb (tn_pf (sn (eS e)) (4 ^ sn (eS e)) u) lim held σ') := by
  have hn := hV.1.1
  have h4 := p4 hn
  intro d
  induction d with
  | zero =>
    intro n c b x τ h1 h2 q
    obtain ⟨m, rfl⟩ : ∃ m, n = m + 1 := ⟨n - 1, by omega⟩
    rw [F_X4_bestCode_26, if_pos (nI_le (by omega) (by omega))]
    rw [show c = 4 ^ sn (eS e) by omega] at q
    exact tq_some ⟨rfl, q⟩
  | succ d ih =>
    intro n c b x τ h1 h2 q
    obtain ⟨m, rfl⟩ : ∃ m, n = m + 1 := ⟨n - 1, by omega⟩
    rw [F_X4_bestCode_26, if_neg (nI_ge (by omega) (by omega)), s_aim hV q.1 (by omega), tn_bds]
    unfold tn_bq
    by_cases cx : tn_aim e hb (tn_pf (sn (eS e)) c u) w ≤ x
    · rw [if_pos cx, if_pos cx]
      unfold F_X4_bestCode_55
      refine tq_bd (k_advance hV q) (fun _ τ2 q3 => ?_)
      rw [nI_1]
      rw [av_pf] at q3
      exact ih m (c + 1) b x τ2 (by omega) (by omega) q3
    · rw [if_neg cx, if_neg cx]
      unfold F_X4_bestCode_55
      refine tq_bd (k_advance hV q) (fun _ τ2 q3 => ?_)
      rw [nI_1]
      rw [av_pf] at q3
      exact ih m (c + 1) c _ τ2 (by omega) (by omega) q3
def tn_bA (A : tA) (w : Nat) : Nat × Int64 := tn_bq (tn_eA A) (tn_hA A) (aH A) w (4 ^ sn (tn_SA A)) 0 0 (-9223372036854775808)
theorem bA_lt (A : tA) (w : Nat) : (tn_bA A w).1 ≤ 1024 := Nat.le_trans (bq_lt _ _ _ _ (4 ^ sn (tn_SA A)) _ _ _ _ (Nat.le_of_eq (Nat.zero_add _)) (Nat.zero_le _)) (p4 (tV_A A).1)
theorem k_bestCode (hA : tW A) {w : Nat} (hw : w < 2) (h : CI A σ) : tq (f_X4_bestCode (nI w) σ) (fun r σ' => r = nI (tn_bA A w).1 ∧ kC A (tn_eA A) (tn_hA A) (tn_pf (sn (tn_SA A)) (4 ^ sn (tn_SA A)) (aH A)) (tn_lm (tn_eA A) 3) (-1) σ') := by
  have hV := tVe_A hA
  have h4 := p4 hV.1.1
  have h4' : 4 ^ sn (tn_SA A) = 4 ^ sn (eS (tn_eA A)) := rfl
  unfold f_X4_bestCode
  refine tq_bd (k_scene hA h) (fun _ σ1 q => ?_)
  rw [s_profiles hV q.1, tn_bds]
  refine tq_lt ?_
  exact tq_bd (k_place hV q (c := 0) (by omega)) (fun _ σ2 q2 => k_best26 hV hw _ tn_fuel 0 0 _ σ2 (by omega) (by unfold tn_fuel; omega) q2)
theorem k_placedBest (hA : tW A) {w : Nat} (hw : w < 2) (h : CI A σ) : tq (f_X4_placedBest (nI w) σ) (fun _ σ' => kC A (tn_eA A) (tn_hA A) (tn_pf (sn (tn_SA A)) (tn_bA A w).1 (aH A)) (tn_lm (tn_eA A) 3) (-1) σ') := by
  have hV := tVe_A hA
  have hb := bA_lt A w
  unfold f_X4_placedBest
  refine tq_bd (k_bestCode hA hw h) (fun r σ1 ⟨q1, q2⟩ => ?_)
  rw [q1]
  refine tq_bd (k_place hV q2 (c := (tn_bA A w).1) (by omega)) (fun _ σ2 q3 => tq_some ?_)
  have := pf_pf (sn (tn_SA A)) (tn_bA A w).1 (4 ^ sn (tn_SA A)) (aH A)
  change kC A _ _ (tn_pf (sn (tn_SA A)) _ (tn_pf (sn (tn_SA A)) _ (aH A))) _ _ _ at q3
  rw [this] at q3
  exact q3
theorem m_find15 (hV : tVe e) {w : Nat} (hw : w < 2) {L : Nat} {fixed : Int32} : ∀ d n c b (v : Nat → Nat) (τ : tn_M), c + d = 4 ^ sn (eS e) → d < n → kM A e hb v L fixed τ → (∀ c, tn_pf (sn (eS e)) c v = tn_pf (sn (eS e)) c u) → tq (F_X5_findBest_15 n (nI w) (nI b) (nI c) τ) (fun r σ' => r = nI (tn_bq e hb u w d c b (τ.2 5 25)).1 ∧ σ'.2 5 25 = (tn_bq e hb u w d c b (τ.2 5 25)).2 ∧ ∃ v, kM A e hb v L fixed σ' ∧ ∀ c, tn_pf (sn (eS e)) c v = tn_pf (sn (eS e)) c u) := by
  have hn := hV.1.1
  have h4 := p4 hn
  intro d
  induction d with
  | zero =>
    intro n c b v τ h1 h2 q hv
    obtain ⟨m, rfl⟩ : ∃ m, n = m + 1 := ⟨n - 1, by omega⟩
    rw [F_X5_findBest_15, q.1.st.1, tn_4n _ hn, if_pos (nI_le (by omega) (by omega))]
    exact tq_some ⟨rfl, rfl, v, q, hv⟩
  | succ d ih =>
    intro n c b v τ h1 h2 q hv
    obtain ⟨m, rfl⟩ : ∃ m, n = m + 1 := ⟨n - 1, by omega⟩
    rw [F_X5_findBest_15, q.1.st.1, tn_4n _ hn, if_neg (nI_ge (by omega) (by omega))]
    refine tq_bd (tq_fr (fr_X5_lays _ _) (m_lays hV q (c := c) (by omega))) (fun _ τ1 ⟨q1, f1⟩ => tq_bd (tq_fr (fr_X5_together _) (m_together hV q1)) (fun r τ2 ⟨⟨q2, q3, q4⟩, f2⟩ => ?_))
    have hv' : ∀ c', tn_pf (sn (eS e)) c' (tn_pf (sn (eS e)) c u) = tn_pf (sn (eS e)) c' u := fun c' => pf_pf _ _ _ _
    rw [hv] at q2 q3 q4
    have e25 : τ2.2 5 25 = τ.2 5 25 := by rw [f2.l 5 25 (by rfl), f1.l 5 25 (by rfl)]
    have ea : (if nI w = 0 then r else τ2.2 5 23) = tn_aim e hb (tn_pf (sn (eS e)) c u) w := by
      unfold tn_aim
      rw [q2, q3]
      have : w = 0 ∨ w = 1 := by omega
      rcases this with rfl | rfl
      · rfl
      · rw [if_neg (by decide), if_neg (by decide)]
    rw [ea]
    refine tq_lt (tq_lt (tq_lt (tq_lt ?_)))
    rw [e25, nI_1]
    have hk : ∀ z : Int64, kM A e hb (tn_pf (sn (eS e)) c u) L fixed (tn_sl τ2 5 25 z) := fun z => ⟨mTr_keep q4.1 (tn_fr.sl (by rfl) tn_fr.rf), M0_sub q4.2 (tn_fr.sl (S := [(5, 25)]) (by rfl) tn_fr.rf) (by decide)⟩
    have e2 : ∀ z : Int64, (tn_sl τ2 5 25 z).2 5 25 = z := fun z => by rw [tn_sl_2, if_pos ⟨rfl, rfl⟩]
    by_cases cx : tn_aim e hb (tn_pf (sn (eS e)) c u) w ≤ τ.2 5 25
    · rw [if_pos cx, if_pos cx]
      have := ih m (c + 1) b _ (tn_sl τ2 5 25 (τ.2 5 25)) (by omega) (by omega) (hk _) hv'
      rw [e2] at this
      unfold tn_bq
      simp only [if_pos cx]
      exact this
    · rw [if_neg cx, if_neg cx]
      have := ih m (c + 1) c _ (tn_sl τ2 5 25 (tn_aim e hb (tn_pf (sn (eS e)) c u) w)) (by omega) (by omega) (hk _) hv'
      rw [e2] at this
      unfold tn_bq
      simp only [if_neg cx]
      exact this
theorem m_findBest (hA : tW A) {w : Nat} (hw : w < 2) (h : M0 A σ) : tq (f_X5_findBest (nI w) σ) (fun r σ' => r = nI (tn_bA A w).1 ∧ σ'.2 5 25 = (tn_bA A w).2 ∧ ∃ v, kM A (tn_eA A) (tn_hA A) v 3 (-1) σ' ∧ ∀ c, tn_pf (sn (tn_SA A)) c v = tn_pf (sn (tn_SA A)) c (aH A)) := by
  have hV := tVe_A hA
  have h4 := p4 hV.1.1
  have h4' : 4 ^ sn (tn_SA A) = 4 ^ sn (eS (tn_eA A)) := rfl
  unfold f_X5_findBest
  refine tq_bd (m_tries hA h) (fun _ σ1 q => tq_lt ?_)
  have hk : kM A (tn_eA A) (tn_hA A) (aH A) 3 (-1) (tn_sl σ1 5 25 (-9223372036854775808)) := ⟨mTr_keep q.1 (tn_fr.sl (by rfl) tn_fr.rf), M0_sub q.2 (tn_fr.sl (S := [(5, 25)]) (by rfl) tn_fr.rf) (by decide)⟩
  have := m_find15 (u := aH A) hV hw (4 ^ sn (tn_SA A)) tn_fuel 0 0 _ _ (by show 0 + 4 ^ sn (tn_SA A) = _; omega) (by unfold tn_fuel; have : 4 ^ sn (tn_SA A) ≤ 1024 := h4; omega) hk (fun _ => rfl)
  rw [tn_sl_2, if_pos ⟨rfl, rfl⟩] at this
  exact this
theorem m_bestOf (hA : tW A) {w k : Nat} (hw : w < 2) (hk : k < sn (tn_SA A)) (h : M0 A σ) : tq (f_X5_bestOf (nI w) (nI k) σ) (fun r σ' => r = nI (tn_pf (sn (tn_SA A)) (tn_bA A w).1 (aH A) k) ∧ M0 A σ') := by
  have hV := tVe_A hA
  have hn := (tV_A A).1
  have hb := bA_lt A w
  unfold f_X5_bestOf
  refine tq_bd (m_findBest hA hw h) (fun r σ1 ⟨q1, _, v, q3, q4⟩ => ?_)
  rw [q1]
  refine tq_bd (m_lays hV q3 (c := (tn_bA A w).1) (by omega)) (fun _ σ2 q5 => ?_)
  rw [tn_ckn (by omega) (by decide), tn_xn (by omega), q5.1.un (by omega)]
  have := q4 (tn_bA A w).1
  refine tq_some ⟨?_, q5.2⟩
  show nI (tn_pf (sn (tn_SA A)) _ v k) = _
  rw [this]
theorem c_best (hA : tW A) (x y : Int32) : tn_P A A (f_X4_best x y) (f_X5_best x y) := by
  have hn := (tV_A A).1
  have t0 : (0 : Int32).toInt = 0 := rfl
  have t1 : (1 : Int32).toInt = 1 := rfl
  rcases side_cases x with c | ⟨w, hw, rfl, c⟩
  · refine ⟨-2, fun σ h => ?_, fun σ h => ?_⟩
    · unfold f_X4_best
      by_cases d : x < 0
      · rw [if_pos d]; exact tq_some ⟨rfl, h⟩
      · rw [if_neg d, if_pos (by rw [tn_lt32] at *; omega)]; exact tq_some ⟨rfl, h⟩
    · unfold f_X5_best
      rw [s_isTwo, tn_bds, if_neg c, if_pos rfl]
      exact tq_some ⟨rfl, h⟩
  · have n1 : ¬ nI w < 0 := by rw [tn_lt32]; omega
    have n2 : ¬ 1 < nI w := by rw [tn_lt32]; omega
    rcases shop_cases A y with d | ⟨k, hk, rfl, d⟩
    · refine ⟨-2, fun σ h => ?_, fun σ h => ?_⟩
      · unfold f_X4_best
        rw [if_neg n1, if_neg n2, s_noShop h.2.2.1, tn_bds, if_neg d, if_neg (by decide)]
        exact tq_some ⟨rfl, h⟩
      · unfold f_X5_best
        rw [s_isTwo, tn_bds, if_pos c, if_neg (by decide)]
        refine tq_bd (s_isShop hA h _) (fun r σ1 ⟨q1, _, q3⟩ => ?_)
        rw [q1, if_neg d, if_pos rfl]
        exact tq_some ⟨rfl, q3⟩
    · refine ⟨nI (tn_pf (sn (tn_SA A)) (tn_bA A w).1 (aH A) k), fun σ h => ?_, fun σ h => ?_⟩
      · unfold f_X4_best
        rw [if_neg n1, if_neg n2, s_noShop h.2.2.1, tn_bds, if_pos d, if_pos rfl]
        refine tq_bd (k_placedBest hA hw h) (fun _ σ1 q => ?_)
        rw [tn_ckn (by omega) (by decide), tn_xn (by omega), q.1.un (by omega)]
        exact tq_some ⟨rfl, q.2⟩
      · unfold f_X5_best
        rw [s_isTwo, tn_bds, if_pos c, if_neg (by decide)]
        refine tq_bd (s_isShop hA h _) (fun r σ1 ⟨q1, _, q3⟩ => ?_)
        rw [q1, if_pos d, if_neg (by decide)]
        exact tq_bd (m_bestOf hA hw hk q3) (fun r σ2 q => tq_some q)
/-- the best amount is that of the best code, once there is a profile -/
theorem bq_val (e : tEc) (hb u : Nat → Nat) (w : Nat) : ∀ d c b x, x = tn_aim e hb (tn_pf (sn (eS e)) b u) w → (tn_bq e hb u w d c b x).2 = tn_aim e hb (tn_pf (sn (eS e)) (tn_bq e hb u w d c b x).1 u) w := by
  intro d
  induction d with
  | zero => intro c b x h; exact h
  | succ d ih =>
    intro c b x h
    unfold tn_bq
    split
    · exact ih _ _ _ h
    · exact ih _ _ _ rfl
theorem bA_val (A : tA) (w : Nat) : (tn_bA A w).2 = tn_aim (tn_eA A) (tn_hA A) (tn_pf (sn (tn_SA A)) (tn_bA A w).1 (aH A)) w := by
  unfold tn_bA
  obtain ⟨d, hd⟩ : ∃ d, 4 ^ sn (tn_SA A) = d + 1 := ⟨4 ^ sn (tn_SA A) - 1, by have : 0 < 4 ^ sn (tn_SA A) := Nat.pow_pos (by omega); omega⟩
  rw [hd]
  unfold tn_bq
  split
  · next h =>
    have h2 := Int64.minValue_le (tn_aim (tn_eA A) (tn_hA A) (tn_pf (sn (eS (tn_eA A))) 0 (aH A)) w)
    have h3 : tn_aim (tn_eA A) (tn_hA A) (tn_pf (sn (eS (tn_eA A))) 0 (aH A)) w = -9223372036854775808 := Int64.le_antisymm h h2
    exact bq_val _ _ _ _ _ _ _ _ h3.symm
  · exact bq_val _ _ _ _ _ _ _ _ rfl
theorem c_loss (hA : tW A) (x : Int32) : tn_P A A (f_X4_loss x) (f_X5_loss x) := by
  have hV := tVe_A hA
  rcases side_cases x with c | ⟨w, hw, rfl, c⟩
  · refine ⟨-9223372036854775808 - Int32.toInt64 (-2), fun σ h => ?_, fun σ h => ?_⟩
    · unfold f_X4_loss
      rw [s_noSide, tn_bds, if_neg c, if_neg (by decide)]
      exact tq_some ⟨rfl, h⟩
    · unfold f_X5_loss
      rw [s_isTwo, tn_bds, if_neg c, if_pos rfl]
      exact tq_some ⟨rfl, h⟩
  · refine ⟨tn_frc ((tn_bA A 0).2 - tn_to (tn_eA A) (tn_hA A) (aH A)) (nI w), fun σ h => ?_, fun σ h => ?_⟩
    · unfold f_X4_loss
      rw [s_noSide, tn_bds, if_pos c, if_pos rfl]
      refine tq_bd (k_placedBest hA (w := 0) (by omega) h) (fun _ σ1 q => ?_)
      rw [s_together hV q.1, tn_bds]
      refine tq_bd (k_scene hA q.2) (fun _ σ2 q2 => ?_)
      rw [s_together hV q2.1, tn_bds, (s_frc _ _ _).1, tn_bds, bA_val A 0]
      exact tq_some ⟨rfl, q2.2⟩
    · unfold f_X5_loss
      rw [s_isTwo, tn_bds, if_pos c, if_neg (by decide)]
      refine tq_bd (m_findBest hA (w := 0) (by omega) h) (fun r σ1 ⟨q1, q2, v, q3, q4⟩ => ?_)
      refine tq_bd (m_tries hA q3.2) (fun _ σ2 q5 => tq_bd (m_together hV q5) (fun r3 σ3 ⟨q6, q7, q8⟩ => ?_))
      rw [q2, q6, (s_frc _ _ _).2, tn_bds]
      exact tq_some ⟨rfl, q8.2⟩
end CB
