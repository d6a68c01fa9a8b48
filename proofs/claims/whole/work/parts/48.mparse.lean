/-! the model reads -/
def mP (t : Nat → Int32) (len : Nat) (p : Nat) (σ : tn_M) : Prop := σ.1 5 6 = nI len ∧ len ≤ 150 ∧ σ.1 5 7 = nI p ∧ p ≤ len ∧ ∀ j, j < len → σ.1 37 j = t j
section MP
variable {t : Nat → Int32} {len p : Nat} {σ : tn_M}
theorem mP.fr {σ' : tn_M} {p' : Nat} (h : mP t len p σ) (e : ∀ a b, (a = 5 ∧ b = 6) ∨ a = 37 → σ'.1 a b = σ.1 a b) (h2 : σ'.1 5 7 = nI p') (h3 : p' ≤ len) : mP t len p' σ' := by
  obtain ⟨a, b, c, d, f⟩ := h
  exact ⟨by rw [e 5 6 (by omega)]; exact a, b, h2, h3, fun j hj => by rw [e 37 j (by omega)]; exact f j hj⟩
theorem s_here (h : mP t len p σ) : f_X5_here σ = some (tn_q t len p, σ) := by
  obtain ⟨h1, h2, h3, h4, h5⟩ := h
  unfold f_X5_here tn_q
  rw [h1, h3]
  by_cases c : p < len
  · rw [if_neg (nI_ge c (by omega)), tn_ckn (by omega) (by decide), tn_xn (by omega), h5 p c, if_pos c]
  · rw [if_pos (nI_le (by omega) (by omega)), if_neg c]
theorem s_goes (h : mP t len p σ) {c : Int32} (hc : c ≠ -1) : tq (f_X5_goes c σ) (fun r σ' => (match tn_kc (tn_q t len) c p with
    | .inl _ => r = 0 ∧ mP t len p σ'
    | .inr a => r = 1 ∧ mP t len a.2 σ') ∧ tn_fr [(5, 7)] σ σ') := by
  refine tq_fr (fr_X5_goes _ _) ?_
  unfold f_X5_goes tn_kc
  rw [s_here h, tn_bds]
  refine tq_lt (tq_lt (tq_lt ?_))
  by_cases e : tn_q t len p = c
  · rw [if_pos e, if_pos e, if_neg (by decide)]
    unfold tn_zr
    rw [if_pos (Or.inr rfl)]
    refine tq_some ⟨rfl, h.fr (fun a b hab => by rw [tn_si_1, if_neg (by omega)]) ?_ (q_lt e hc)⟩
    rw [tn_si_1, if_pos ⟨rfl, rfl⟩, h.2.2.1, nI_1]
  · rw [if_neg e, if_neg e, if_pos rfl]
    unfold tn_zr
    rw [if_pos (Or.inl rfl)]
    refine tq_some ⟨rfl, h.fr (fun a b hab => by rw [tn_si_1, if_neg (by omega)]) ?_ h.2.2.2.1⟩
    rw [tn_si_1, if_pos ⟨rfl, rfl⟩, h.2.2.1, Int32.add_zero]
theorem tn_fin9 (r : Int32) (σ : tn_M) : f_X5_in (Int32.toInt64 r) 48 57 σ = some (if tn_dg r then 1 else 0, σ) := by
  rw [tn_inI r 48 57 σ (a := 48) (b := 57) rfl rfl]
  unfold tn_dg
  simp
/-- the end of figures, behind at least one -/
theorem s_fig65 (h : mP t len p σ) {p0 v lo hi : Nat} {hiI : Int32} (hh : hiI.toInt = (hi : Int) - 1) (hp : p0 < p) (hv : v < 1000) (hlo : lo < 1000) : tq (F_X5_figures_65 (nI lo) hiI (nI p0) (nI v) σ) (fun r σ' => (match tn_rg lo hi v p0 p with
    | .inl _ => r = -9 ∧ mP t len p0 σ'
    | .inr a => r = nI a.1 ∧ mP t len a.2 σ')) := by
  have h4 := h.2.2.2.1
  have h2 := h.2.1
  unfold F_X5_figures_65 tn_rg
  rw [h.2.2.1, if_neg (nI_ge hp (by omega)), tn_inI (nI v) _ _ σ (a := lo) (b := (hi : Int) - 1) (by rw [tn_t64, tn_t (by omega)]) (by rw [tn_t64]; exact hh), tn_bds, tn_t (by omega)]
  by_cases c : lo ≤ v ∧ v < hi
  · rw [if_pos c, if_neg (by rw [if_pos (by omega)]; decide)]
    exact tq_some ⟨rfl, h⟩
  · rw [if_neg c, if_pos (by rw [if_neg (by omega)])]
    unfold F_X5_figures_90
    exact tq_lt (tq_some ⟨rfl, h.fr (fun a b hab => by rw [tn_si_1, if_neg (by omega)]) (by rw [tn_si_1, if_pos ⟨rfl, rfl⟩]) (by omega)⟩)
theorem at_up5 (h : mP t len p σ) (hp : p < len) : mP t len (p + 1) (tn_si σ 5 7 (σ.1 5 7 + 1)) := by
  refine h.fr (fun a b hab => by rw [tn_si_1, if_neg (by omega)]) ?_ (by omega)
  rw [tn_si_1, if_pos ⟨rfl, rfl⟩, h.2.2.1, nI_1]
theorem s_fig1 (h : mP t len p σ) {lo hi : Nat} {hiI : Int32} (hh : hiI.toInt = (hi : Int) - 1) (hlo : lo < 1000) : tq (f_X5_figures 1 (nI lo) hiI σ) (fun r σ' => (match tn_k1 (tn_q t len) lo hi p with
    | .inl _ => r = -9 ∧ mP t len p σ'
    | .inr a => r = nI a.1 ∧ mP t len a.2 σ') ∧ tn_fr [(5, 7)] σ σ') := by
  refine tq_fr (fr_X5_figures _ _ _ _) ?_
  have h4 := h.2.2.2.1
  have h2 := h.2.1
  unfold f_X5_figures
  rw [h.2.2.1]
  show tq (F_X5_figures_9 (1998 + 1 + 1) 1 (nI lo) hiI (nI p) (nI 0) σ) _
  rw [F_X5_figures_9, h.2.2.1, nI_1, if_neg (nI_ge (by omega) (by omega)), s_here h, tn_bds, tn_fin9, tn_bds]
  unfold tn_k1
  by_cases d1 : tn_dg (tn_q t len p) = true
  · obtain ⟨e1, e2⟩ := dg_v d1
    rw [if_neg (by rw [if_pos d1]; decide), s_here h, tn_bds, if_pos d1]
    refine tq_lt (tq_lt ?_)
    have ev : (10 * nI 0 + tn_q t len p - 48 : Int32) = nI (tn_dv (tn_q t len p)) := by
      rw [show (10 * nI 0 + tn_q t len p - 48 : Int32) = 10 * nI 0 + nI (48 + tn_dv (tn_q t len p)) - 48 by rw [← e1], tn_L 10, pk_mul, nI_add, tn_L 48, pk_sub (by omega)]
      congr 1
      omega
    have h1 := at_up5 h (dg_lt d1)
    generalize tn_si σ 5 7 (σ.1 5 7 + 1) = τ at h1 ⊢
    rw [ev, F_X5_figures_9, h1.2.2.1, nI_1, if_pos (nI_le (by omega) (by omega))]
    exact s_fig65 h1 hh (by omega) (by omega) hlo
  · rw [if_pos (by rw [if_neg d1]), if_neg d1]
    unfold F_X5_figures_65
    rw [h.2.2.1, if_pos (nI_le (by omega) (by omega))]
    unfold F_X5_figures_90
    exact tq_lt (tq_some ⟨rfl, h.fr (fun a b hab => by rw [tn_si_1, if_neg (by omega)]) (by rw [tn_si_1, if_pos ⟨rfl, rfl⟩]) h4⟩)
theorem s_fig2 (h : mP t len p σ) {lo hi : Nat} {hiI : Int32} (hh : hiI.toInt = (hi : Int) - 1) (hlo : lo < 1000) : tq (f_X5_figures 2 (nI lo) hiI σ) (fun r σ' => (match tn_k2 (tn_q t len) lo hi p with
    | .inl _ => r = -9 ∧ mP t len p σ'
    | .inr a => r = nI a.1 ∧ mP t len a.2 σ') ∧ tn_fr [(5, 7)] σ σ') := by
  refine tq_fr (fr_X5_figures _ _ _ _) ?_
  have h4 := h.2.2.2.1
  have h2 := h.2.1
  unfold f_X5_figures
  rw [h.2.2.1]
  show tq (F_X5_figures_9 (1997 + 1 + 1 + 1) 2 (nI lo) hiI (nI p) (nI 0) σ) _
  rw [F_X5_figures_9, h.2.2.1, tn_L 2, nI_add, if_neg (nI_ge (by omega) (by omega)), s_here h, tn_bds, tn_fin9, tn_bds]
  unfold tn_k2
  by_cases d1 : tn_dg (tn_q t len p) = true
  · obtain ⟨e1, e2⟩ := dg_v d1
    rw [if_neg (by rw [if_pos d1]; decide), s_here h, tn_bds, if_pos d1]
    refine tq_lt (tq_lt ?_)
    have ev : (10 * nI 0 + tn_q t len p - 48 : Int32) = nI (tn_dv (tn_q t len p)) := by
      rw [show (10 * nI 0 + tn_q t len p - 48 : Int32) = 10 * nI 0 + nI (48 + tn_dv (tn_q t len p)) - 48 by rw [← e1], tn_L 10, pk_mul, nI_add, tn_L 48, pk_sub (by omega)]
      congr 1
      omega
    have h1 := at_up5 h (dg_lt d1)
    have l1 := dg_lt d1
    generalize tn_si σ 5 7 (σ.1 5 7 + 1) = τ at h1 ⊢
    rw [ev, F_X5_figures_9, h1.2.2.1, nI_add, if_neg (nI_ge (by omega) (by omega)), s_here h1, tn_bds, tn_fin9, tn_bds]
    by_cases d2 : tn_dg (tn_q t len (p + 1)) = true
    · obtain ⟨e3, e4⟩ := dg_v d2
      rw [if_neg (by rw [if_pos d2]; decide), s_here h1, tn_bds, if_pos d2]
      refine tq_lt (tq_lt ?_)
      have ev2 : (10 * nI (tn_dv (tn_q t len p)) + tn_q t len (p + 1) - 48 : Int32) = nI (10 * tn_dv (tn_q t len p) + tn_dv (tn_q t len (p + 1))) := by
        rw [show (10 * nI (tn_dv (tn_q t len p)) + tn_q t len (p + 1) - 48 : Int32) = 10 * nI (tn_dv (tn_q t len p)) + nI (48 + tn_dv (tn_q t len (p + 1))) - 48 by rw [← e3], tn_L 10, pk_mul, nI_add, tn_L 48, pk_sub (by omega)]
        congr 1
        omega
      have h3 := at_up5 h1 (dg_lt d2)
      have l2 := dg_lt d2
      generalize tn_si τ 5 7 (τ.1 5 7 + 1) = τ2 at h3 ⊢
      rw [ev2, F_X5_figures_9, h3.2.2.1, nI_add, if_pos (nI_le (by omega) (by omega))]
      exact s_fig65 h3 hh (by omega) (by omega) hlo
    · rw [if_pos (by rw [if_neg d2]), if_neg d2]
      exact s_fig65 h1 hh (by omega) (by omega) hlo
  · rw [if_pos (by rw [if_neg d1]), if_neg d1]
    unfold F_X5_figures_65
    rw [h.2.2.1, if_pos (nI_le (by omega) (by omega))]
    unfold F_X5_figures_90
    exact tq_lt (tq_some ⟨rfl, h.fr (fun a b hab => by rw [tn_si_1, if_neg (by omega)]) (by rw [tn_si_1, if_pos ⟨rfl, rfl⟩]) h4⟩)
theorem mSt_keep {S : tS} {σ' : tn_M} (h : mSt S σ) (hf : tn_fr [(5, 7)] σ σ') : mSt S σ' := mSt_same h (fun a b hab => hf.i a b (by unfold tn_ms; simp; omega))
theorem s_readsShop {S : tS} (hV : tV S) (h : mP t len p σ) (hq : tn_q t len p ≠ -1) (hS : mSt S σ) : tq (f_X5_readsShop σ) (fun r σ' => if sn S < 5 then (match tn_psh (tn_q t len) p with
    | .inl f => r = 0 ∧ mP t len f σ'
    | .inr a => r = 1 ∧ mP t len a.2 σ' ∧ mSt (tn_ash S a.1.1.2 a.1.2) σ') else r = 0 ∧ mP t len p σ') := by
  have hn := hV.1
  unfold f_X5_readsShop
  rw [hS.1]
  by_cases c5 : sn S < 5
  · simp only [if_pos c5]
    rw [tn_L 5, if_neg (by rw [nI_eq (by omega) (by omega)]; omega)]
    refine tq_lt ?_
    have h1 := at_up5 h (q_lt rfl hq)
    have hS1 : mSt S (tn_si σ 5 7 (σ.1 5 7 + 1)) := mSt_keep hS (tn_fr.si (by rfl) tn_fr.rf)
    generalize tn_si σ 5 7 (σ.1 5 7 + 1) = σ1 at h1 hS1 ⊢
    unfold tn_psh tn_t2 tn_tC tn_t1
    rw [sb_r]
    dsimp only
    refine tq_bd (s_fig1 h1 (lo := 1) (hi := 4) (hiI := 3) rfl (by omega)) (fun r3 σ2 ⟨q2, f2⟩ => ?_)
    have hS2 := mSt_keep hS1 f2
    cases k1 : tn_k1 (tn_q t len) 1 4 (p + 1) with
    | inl f =>
      rw [k1] at q2
      obtain ⟨rfl, q2⟩ := q2
      rw [if_pos (by decide)]
      have := k1_f k1
      subst this
      exact tq_some ⟨rfl, q2⟩
    | inr a =>
      rw [k1] at q2
      obtain ⟨rfl, q2⟩ := q2
      have r1 := k1_p k1
      rw [if_neg (nI_pos (by omega))]
      refine tq_bd (s_goes q2 (c := 44) (by decide)) (fun r5 σ4 ⟨q4, f4⟩ => ?_)
      have hS4 := mSt_keep hS2 f4
      rw [sb_r, sb_r]
      cases k2 : tn_kc (tn_q t len) 44 a.2 with
      | inl f =>
        rw [k2] at q4
        obtain ⟨rfl, q4⟩ := q4
        rw [if_pos rfl]
        have := kc_f k2
        subst this
        exact tq_some ⟨rfl, q4⟩
      | inr b =>
        rw [k2] at q4
        obtain ⟨rfl, q4⟩ := q4
        rw [if_neg (by decide)]
        refine tq_bd (s_fig2 q4 (lo := 0) (hi := 100) (hiI := 99) rfl (by omega)) (fun r7 σ6 ⟨q6, f6⟩ => ?_)
        have hS6 := mSt_keep hS4 f6
        rw [sb_r, sb_r]
        cases k3 : tn_k2 (tn_q t len) 0 100 b.2 with
        | inl f =>
          rw [k3] at q6
          obtain ⟨rfl, q6⟩ := q6
          rw [if_neg (by decide)]
          have := k2_f k3
          subst this
          exact tq_some ⟨rfl, q6⟩
        | inr d =>
          rw [k3] at q6
          obtain ⟨rfl, q6⟩ := q6
          have r3 := k2_p k3
          rw [if_pos (nI_pos' (by omega)), hS6.1, tn_ckn c5 (by decide), tn_xn (by omega)]
          refine tq_lt ?_
          have e15 : (tn_si σ6 38 (sn S) (nI a.1)).1 5 8 = nI (sn S) := by rw [tn_si_1, if_neg (by omega)]; exact hS6.1
          rw [e15, tn_ckn c5 (by decide), tn_xn (by omega)]
          refine tq_lt ?_
          have e15' : (tn_si (tn_si σ6 38 (sn S) (nI a.1)) 39 (sn S) (nI d.1)).1 5 8 = nI (sn S) := by rw [tn_si_1, if_neg (by omega)]; exact e15
          rw [e15', nI_1]
          refine tq_lt (tq_some ⟨rfl, q6.fr (fun a b hab => by simp only [tn_si_1]; rw [if_neg (by omega), if_neg (by omega), if_neg (by omega)]) (by simp only [tn_si_1]; rw [if_neg (by omega), if_neg (by omega), if_neg (by omega)]; exact q6.2.2.1) q6.2.2.2.1, ?_, ?_, fun k hk2 => ?_, fun i hi j hj => ?_⟩)
          · rw [tn_si_1, if_pos ⟨rfl, rfl⟩]; rfl
          · simp only [tn_si_1]; rw [if_neg (by omega), if_neg (by omega), if_neg (by omega)]; exact hS6.2.1
          · have hk2 : k < sn S + 1 := hk2
            show _ = nI (va_up (sz S) (sn S) a.1 k) ∧ _ = nI (va_up (sc S) (sn S) d.1 k)
            unfold va_up
            by_cases c1 : k = sn S
            · subst c1
              simp [tn_si_1]
            · simp [tn_si_1, c1]
              exact hS6.2.2.1 k (by omega)
          · have hi : i < sm S := hi
            simp only [tn_si_1]; rw [if_neg (by omega), if_neg (by omega), if_neg (by omega)]
            exact hS6.2.2.2 i hi j hj
  · simp only [if_neg c5]
    rw [if_pos (by rw [show sn S = 5 by omega]; rfl)]
    exact tq_some ⟨rfl, h⟩
end MP
