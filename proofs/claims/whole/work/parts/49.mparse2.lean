/-! the model reads a sort, a part, all -/
section MQ
variable {t : Nat → Int32} {len p : Nat} {σ : tn_M}
theorem nI_n9 {j : Nat} (h : j < 1000) : ¬ nI j = (-9 : Int32) := by
  intro e
  have := congrArg Int32.toInt e
  rw [tn_t (by omega), show (-9 : Int32).toInt = -9 by decide] at this
  omega
theorem s_bh2 (h : mP t len p σ) {α : Type} {a : α} {x : Int32} {lo hi : Nat} (hx : (lo = 1 ∧ hi = 100 ∧ (x = nI 1 ∨ x = nI 5)) ∨ (lo = 0 ∧ hi = 17 ∧ (x = nI 3 ∨ x = nI 4))) : tq (f_X5_behind x σ) (fun r σ' => (match tn_t2 (tn_q t len) lo hi (tn_tC (tn_q t len) (.inr (a, p))) with
    | .inl f => r = -9 ∧ mP t len f σ'
    | .inr b => r = nI b.1.2 ∧ b.1.1 = a ∧ mP t len b.2 σ') ∧ tn_fr [(5, 7)] σ σ') := by
  unfold f_X5_behind
  refine tq_bd (s_goes h (c := 44) (by decide)) (fun r1 σ1 ⟨q1, f1⟩ => ?_)
  unfold tn_t2 tn_tC
  rw [sb_r]
  cases k1 : tn_kc (tn_q t len) 44 p with
  | inl f =>
    rw [k1] at q1
    obtain ⟨rfl, q1⟩ := q1
    rw [if_pos rfl]
    have := kc_f k1
    subst this
    exact tq_some ⟨⟨rfl, q1⟩, f1⟩
  | inr b =>
    rw [k1] at q1
    obtain ⟨rfl, q1⟩ := q1
    rw [if_neg (by decide)]
    have go : tq (tn_bd (f_X5_figures 2 (nI lo) (nI (hi - 1)) σ1) fun r2 σ2 => some (r2, σ2)) (fun r σ' => (match (tn_sb (.inr (a, b.2)) (fun a p => tn_sb (tn_k2 (tn_q t len) lo hi p) (fun b p' => .inr ((a, b), p'))) : Nat ⊕ ((α × Nat) × Nat)) with
    | .inl f => r = -9 ∧ mP t len f σ'
    | .inr b => r = nI b.1.2 ∧ b.1.1 = a ∧ mP t len b.2 σ') ∧ tn_fr [(5, 7)] σ σ') := by
      refine tq_bd (s_fig2 q1 (lo := lo) (hi := hi) (hiI := nI (hi - 1)) (by rw [tn_t (by omega)]; omega) (by omega)) (fun r2 σ2 ⟨q2, f2⟩ => ?_)
      rw [sb_r]
      cases k2 : tn_k2 (tn_q t len) lo hi b.2 with
      | inl f =>
        rw [k2] at q2
        obtain ⟨rfl, q2⟩ := q2
        have := k2_f k2
        subst this
        exact tq_some ⟨⟨rfl, q2⟩, f1.tr f2⟩
      | inr d =>
        rw [k2] at q2
        obtain ⟨rfl, q2⟩ := q2
        exact tq_some ⟨⟨rfl, rfl, q2⟩, f1.tr f2⟩
    rcases hx with ⟨rfl, rfl, rfl | rfl⟩ | ⟨rfl, rfl, rfl | rfl⟩
    · rw [if_neg (by decide), if_neg (by decide), if_neg (by decide)]; exact go
    · rw [if_neg (by decide), if_neg (by decide), if_neg (by decide)]; exact go
    · rw [if_neg (by decide), if_pos (by decide)]; unfold F_X5_behind_53; exact go
    · rw [if_neg (by decide), if_neg (by decide), if_pos (by decide)]; unfold F_X5_behind_53; exact go
theorem s_bhl (h : mP t len p σ) {α : Type} {a : α} {n : Nat} (hn : n ≤ 5) (hs : σ.1 5 8 = nI n) : tq (f_X5_behind (nI 2) σ) (fun r σ' => (match tn_tl (tn_q t len) n (tn_tC (tn_q t len) (.inr (a, p))) with
    | .inl f => r = -9 ∧ mP t len f σ'
    | .inr b => r = tn_lki b.1.2 ∧ b.1.1 = a ∧ mP t len b.2 σ') ∧ tn_fr [(5, 7)] σ σ') := by
  unfold f_X5_behind
  refine tq_bd (s_goes h (c := 44) (by decide)) (fun r1 σ1 ⟨q1, f1⟩ => ?_)
  unfold tn_tl tn_tC
  rw [sb_r]
  cases k1 : tn_kc (tn_q t len) 44 p with
  | inl f =>
    rw [k1] at q1
    obtain ⟨rfl, q1⟩ := q1
    rw [if_pos rfl]
    have := kc_f k1
    subst this
    exact tq_some ⟨⟨rfl, q1⟩, f1⟩
  | inr b =>
    rw [k1] at q1
    obtain ⟨rfl, q1⟩ := q1
    rw [if_neg (by decide), if_pos (show nI 2 = 2 from rfl)]
    refine tq_bd (s_goes q1 (c := 45) (by decide)) (fun r2 σ2 ⟨q2, f2⟩ => ?_)
    have f12 := f1.tr f2
    show tq _ (fun r σ' => (match (tn_sb (tn_kl (tn_q t len) n b.2) (fun b p' => .inr ((a, b), p')) : Nat ⊕ ((α × Option Nat) × Nat)) with
    | .inl f => r = -9 ∧ mP t len f σ'
    | .inr b => r = tn_lki b.1.2 ∧ b.1.1 = a ∧ mP t len b.2 σ') ∧ tn_fr [(5, 7)] σ σ')
    unfold tn_kl
    unfold tn_kc at q2
    by_cases c : tn_q t len b.2 = 45
    · rw [if_pos c] at q2 ⊢
      obtain ⟨rfl, q2⟩ := q2
      rw [if_neg (by decide)]
      exact tq_some ⟨⟨rfl, rfl, q2⟩, f12⟩
    · rw [if_neg c] at q2 ⊢
      obtain ⟨rfl, q2⟩ := q2
      rw [if_pos rfl]
      have hs2 : σ2.1 5 8 = nI n := by rw [f12.i 5 8 rfl]; exact hs
      refine tq_bd (s_fig1 q2 (lo := 0) (hi := n) (hiI := σ2.1 5 8 - 1) (by rw [hs2, show (1 : Int32) = nI 1 from rfl, pk_sub_toInt (by omega) (by omega)]; rfl) (by omega)) (fun r3 σ3 ⟨q3, f3⟩ => ?_)
      cases k2 : tn_k1 (tn_q t len) 0 n b.2 with
      | inl f =>
        rw [k2] at q3
        obtain ⟨rfl, q3⟩ := q3
        have := k1_f k2
        subst this
        exact tq_some ⟨⟨rfl, q3⟩, f12.tr f3⟩
      | inr d =>
        rw [k2] at q3
        obtain ⟨rfl, q3⟩ := q3
        exact tq_some ⟨⟨rfl, rfl, q3⟩, f12.tr f3⟩
def mK (t : Nat → Int32) (len p : Nat) (S : tS) (j : Nat) (v : Nat → Int32) (σ : tn_M) : Prop := mP t len p σ ∧ mSt S σ ∧ ∀ i, i < j → σ.1 40 (6 * sm S + i) = v i
theorem mK_keep {S : tS} {j p' : Nat} {v : Nat → Int32} {σ' : tn_M} (h : mK t len p S j v σ) (hf : tn_fr [(5, 7)] σ σ') (hP : mP t len p' σ') : mK t len p' S j v σ' :=
  ⟨hP, mSt_keep h.2.1 hf, fun i hi => by rw [hf.i 40 _ (by unfold tn_ms; simp)]; exact h.2.2 i hi⟩
theorem mK_put {S : tS} {j : Nat} {v : Nat → Int32} {r : Int32} (h : mK t len p S j v σ) (hj : j < 6) (h6 : sm S < 6) {τ : tn_M} (e : τ = tn_si σ 40 (6 * sm S + j) r) : mK t len p S (j + 1) (va_up v j r) τ := by
  subst e
  obtain ⟨h1, h2, h3⟩ := h
  refine ⟨h1.fr (fun a b hab => by rw [tn_si_1, if_neg (by omega)]) (by rw [tn_si_1, if_neg (by omega)]; exact h1.2.2.1) h1.2.2.2.1, ⟨by rw [tn_si_1, if_neg (by omega)]; exact h2.1, by rw [tn_si_1, if_neg (by omega)]; exact h2.2.1, fun k hk => ?_, fun i hi k hk => ?_⟩, fun i hi => ?_⟩
  · rw [tn_si_1, if_neg (by omega), tn_si_1, if_neg (by omega)]; exact h2.2.2.1 k hk
  · rw [tn_si_1, if_neg (by omega)]; exact h2.2.2.2 i hi k hk
  · unfold va_up
    by_cases c : i = j
    · subst c; rw [tn_si_1, if_pos ⟨rfl, rfl⟩, if_pos rfl]
    · rw [tn_si_1, if_neg (by omega), if_neg c]; exact h3 i (by omega)
theorem s_sortPut {S : tS} {j : Nat} {v : Nat → Int32} {r : Int32} (h : mK t len p S j v σ) (hj : j < 6) (h6 : sm S < 6) {n : Nat} {Q : Int32 → tn_M → Prop} (hk : ∀ τ, mK t len p S (j + 1) (va_up v j r) τ → tq (F_X5_readsSort_50 n (nI (j + 1)) τ) Q) : tq (tn_ck ((6 * (σ.1 5 11)) + nI j) 36 <| tn_lt (tn_si σ 40 (tn_x ((6 * (σ.1 5 11)) + nI j)) r) fun σ3 => F_X5_readsSort_50 n (nI j + 1) σ3) Q := by
  have e : (6 * (σ.1 5 11)) + nI j = nI (6 * sm S + j) := by rw [h.2.1.2.1, tn_L 6, pk_mul, nI_add]
  rw [e, tn_ckn (by omega) (by decide), tn_xn (by omega), nI_1]
  exact tq_lt (hk _ (mK_put h hj h6 rfl))
theorem lki_n9 {n : Nat} {o : Option Nat} (hn : n ≤ 5) (h : ∀ l, o = some l → l < n) : ¬ tn_lki o = (-9 : Int32) := by
  cases o with
  | none => decide
  | some l => exact nI_n9 (by have := h l rfl; omega)
theorem s_readsSort {S : tS} (hV : tV S) (h : mP t len p σ) (hq : tn_q t len p ≠ -1) (hS : mSt S σ) : tq (f_X5_readsSort σ) (fun r σ' => if sm S < 6 then (match tn_pso (tn_q t len) (sn S) p with
    | .inl f => r = 0 ∧ mP t len f σ'
    | .inr a => r = 1 ∧ mP t len a.2 σ' ∧ mSt (tn_aso S (tn_row a.1)) σ') else r = 0 ∧ mP t len p σ') := by
  have hn := hV.1
  have hm := hV.2.1
  unfold f_X5_readsSort
  rw [hS.2.1]
  by_cases c6 : sm S < 6
  · simp only [if_pos c6]
    rw [tn_L 6, if_neg (by rw [nI_eq (by omega) (by omega)]; omega)]
    refine tq_lt ?_
    have h1 := at_up5 h (q_lt rfl hq)
    have hS1 : mSt S (tn_si σ 5 7 (σ.1 5 7 + 1)) := mSt_keep hS (tn_fr.si (by rfl) tn_fr.rf)
    generalize tn_si σ 5 7 (σ.1 5 7 + 1) = σ1 at h1 hS1 ⊢
    unfold tn_pso
    rw [show tn_t1 (tn_q t len) 1 4 (.inr ((), p + 1)) = tn_sb (tn_k1 (tn_q t len) 1 4 (p + 1)) (fun b p' => .inr (((), b), p')) from rfl]
    refine tq_bd (s_fig1 h1 (lo := 1) (hi := 4) (hiI := 3) rfl (by omega)) (fun r3 σ2 ⟨q2, f2⟩ => ?_)
    have hS2 := mSt_keep hS1 f2
    cases k1 : tn_k1 (tn_q t len) 1 4 (p + 1) with
    | inl f =>
      rw [k1] at q2
      obtain ⟨rfl, q2⟩ := q2
      rw [if_neg (by decide)]
      have := k1_f k1
      subst this
      exact tq_some (show (0 : Int32) = 0 ∧ mP t len _ _ from ⟨rfl, q2⟩)
    | inr a =>
      rw [k1] at q2
      obtain ⟨rfl, q2⟩ := q2
      have r1 := k1_p k1
      rw [if_pos (nI_pos' (by omega)), sb_r, hS2.2.1, pk_mul, tn_ckn (by omega) (by decide), tn_xn (by omega)]
      refine tq_lt ?_
      have K0 := mK_put (r := nI a.1) (j := 0) (v := fun _ => 0) ⟨q2, hS2, fun i hi => absurd hi (Nat.not_lt_zero i)⟩ (by omega) c6 rfl
      rw [Nat.add_zero] at K0
      generalize tn_si σ2 40 (6 * sm S) (nI a.1) = τ0 at K0 ⊢
      show tq (F_X5_readsSort_50 (1994 + 1 + 1 + 1 + 1 + 1 + 1) (nI 1) τ0) _
      rw [F_X5_readsSort_50, if_neg (by decide)]
      refine tq_bd (s_bh2 (a := ((), a.1)) K0.1 (lo := 1) (hi := 100) (by simp)) (fun r1 ρ1 ⟨q1, f1⟩ => ?_)
      cases e1 : tn_t2 (tn_q t len) 1 100 (tn_tC (tn_q t len) (.inr (((), a.1), a.2))) with
      | inl f =>
        rw [e1] at q1
        obtain ⟨rfl, q1⟩ := q1
        rw [if_pos rfl]
        exact tq_some (show (0 : Int32) = 0 ∧ mP t len f _ from ⟨rfl, q1⟩)
      | inr d1 =>
        rw [e1] at q1
        obtain ⟨rfl, b1, q1⟩ := q1
        obtain ⟨⟨x1, y1⟩, z1⟩ := d1
        have b1 : x1 = ((), a.1) := b1
        subst b1
        have rr1 := (t2_i e1).choose_spec.2.2
        rw [if_neg (nI_n9 (show y1 < 1000 by omega))]
        refine s_sortPut (mK_keep K0 f1 q1) (by omega) c6 (fun τ1 K1 => ?_)
        rw [F_X5_readsSort_50, if_neg (by decide)]
        refine tq_bd (s_bhl (a := (((), a.1), y1)) K1.1 hn K1.2.1.1) (fun r2 ρ2 ⟨q2, f2⟩ => ?_)
        cases e2 : tn_tl (tn_q t len) (sn S) (tn_tC (tn_q t len) (.inr ((((), a.1), y1), z1))) with
        | inl f =>
          rw [e2] at q2
          obtain ⟨rfl, q2⟩ := q2
          rw [if_pos rfl]
          exact tq_some (show (0 : Int32) = 0 ∧ mP t len f _ from ⟨rfl, q2⟩)
        | inr d2 =>
          rw [e2] at q2
          obtain ⟨rfl, b2, q2⟩ := q2
          obtain ⟨⟨x2, y2⟩, z2⟩ := d2
          have b2 : x2 = (((), a.1), y1) := b2
          subst b2
          have rr2 := (tl_i e2).choose_spec.2.2
          rw [if_neg (lki_n9 hn rr2)]
          refine s_sortPut (mK_keep K1 f2 q2) (by omega) c6 (fun τ2 K2 => ?_)
          rw [F_X5_readsSort_50, if_neg (by decide)]
          refine tq_bd (s_bh2 (a := ((((), a.1), y1), y2)) K2.1 (lo := 0) (hi := 17) (by simp)) (fun r3 ρ3 ⟨q3, f3⟩ => ?_)
          cases e3 : tn_t2 (tn_q t len) 0 17 (tn_tC (tn_q t len) (.inr (((((), a.1), y1), y2), z2))) with
          | inl f =>
            rw [e3] at q3
            obtain ⟨rfl, q3⟩ := q3
            rw [if_pos rfl]
            exact tq_some (show (0 : Int32) = 0 ∧ mP t len f _ from ⟨rfl, q3⟩)
          | inr d3 =>
            rw [e3] at q3
            obtain ⟨rfl, b3, q3⟩ := q3
            obtain ⟨⟨x3, y3⟩, z3⟩ := d3
            have b3 : x3 = ((((), a.1), y1), y2) := b3
            subst b3
            have rr3 := (t2_i e3).choose_spec.2.2
            rw [if_neg (nI_n9 (show y3 < 1000 by omega))]
            refine s_sortPut (mK_keep K2 f3 q3) (by omega) c6 (fun τ3 K3 => ?_)
            rw [F_X5_readsSort_50, if_neg (by decide)]
            refine tq_bd (s_bh2 (a := (((((), a.1), y1), y2), y3)) K3.1 (lo := 0) (hi := 17) (by simp)) (fun r4 ρ4 ⟨q4, f4⟩ => ?_)
            cases e4 : tn_t2 (tn_q t len) 0 17 (tn_tC (tn_q t len) (.inr ((((((), a.1), y1), y2), y3), z3))) with
            | inl f =>
              rw [e4] at q4
              obtain ⟨rfl, q4⟩ := q4
              rw [if_pos rfl]
              exact tq_some (show (0 : Int32) = 0 ∧ mP t len f _ from ⟨rfl, q4⟩)
            | inr d4 =>
              rw [e4] at q4
              obtain ⟨rfl, b4, q4⟩ := q4
              obtain ⟨⟨x4, y4⟩, z4⟩ := d4
              have b4 : x4 = (((((), a.1), y1), y2), y3) := b4
              subst b4
              have rr4 := (t2_i e4).choose_spec.2.2
              rw [if_neg (nI_n9 (show y4 < 1000 by omega))]
              refine s_sortPut (mK_keep K3 f4 q4) (by omega) c6 (fun τ4 K4 => ?_)
              rw [F_X5_readsSort_50, if_neg (by decide)]
              refine tq_bd (s_bh2 (a := ((((((), a.1), y1), y2), y3), y4)) K4.1 (lo := 1) (hi := 100) (by simp)) (fun r5 ρ5 ⟨q5, f5⟩ => ?_)
              cases e5 : tn_t2 (tn_q t len) 1 100 (tn_tC (tn_q t len) (.inr (((((((), a.1), y1), y2), y3), y4), z4))) with
              | inl f =>
                rw [e5] at q5
                obtain ⟨rfl, q5⟩ := q5
                rw [if_pos rfl]
                exact tq_some (show (0 : Int32) = 0 ∧ mP t len f _ from ⟨rfl, q5⟩)
              | inr d5 =>
                rw [e5] at q5
                obtain ⟨rfl, b5, q5⟩ := q5
                obtain ⟨⟨x5, y5⟩, z5⟩ := d5
                have b5 : x5 = ((((((), a.1), y1), y2), y3), y4) := b5
                subst b5
                have rr5 := (t2_i e5).choose_spec.2.2
                rw [if_neg (nI_n9 (show y5 < 1000 by omega))]
                refine s_sortPut (mK_keep K4 f5 q5) (by omega) c6 (fun τ5 K5 => ?_)
                rw [F_X5_readsSort_50, if_pos (by decide)]
                unfold F_X5_readsSort_91
                refine tq_lt (tq_some ?_)
                obtain ⟨u1, u2, u3⟩ := K5
                refine (show (1 : Int32) = 1 ∧ mP t len z5 _ ∧ mSt (tn_aso S (a.1, y1, y2, y3, y4, y5)) _ from ⟨rfl, u1.fr (fun a b hab => by rw [tn_si_1, if_neg (by omega)]) (by rw [tn_si_1, if_neg (by omega)]; exact u1.2.2.1) u1.2.2.2.1, ?_⟩)
                refine ⟨by rw [tn_si_1, if_neg (by omega)]; exact u2.1, by rw [tn_si_1, if_pos ⟨rfl, rfl⟩, u2.2.1, nI_1]; rfl, fun k hk => ?_, fun i hi j hj => ?_⟩
                · rw [tn_si_1, if_neg (by omega), tn_si_1, if_neg (by omega)]; exact u2.2.2.1 k hk
                · have hi : i < sm S + 1 := hi
                  rw [tn_si_1, if_neg (by omega)]
                  show _ = tn_er (va_up (sr S) (sm S) _ i) j
                  unfold va_up
                  by_cases c : i = sm S
                  · subst c
                    rw [if_pos rfl, u3 j hj]
                    match j, hj with
                    | 0, _ => rfl
                    | 1, _ => rfl
                    | 2, _ => rfl
                    | 3, _ => rfl
                    | 4, _ => rfl
                    | 5, _ => rfl
                  · rw [if_neg c]
                    exact u2.2.2.2 i (by omega) j hj
  · simp only [if_neg c6]
    rw [if_pos (by rw [show sm S = 6 by omega]; rfl)]
    exact tq_some ⟨rfl, h⟩
/-- what a part leaves when it is read -/
theorem mP_stop {σ' : tn_M} {f : Nat} (h : mP t len f σ) : tq (f_X5_stops σ) (fun r _ => r = nI f) := by
  unfold f_X5_stops
  refine tq_lt (tq_lt (tq_some ?_))
  rw [tn_si_1, if_neg (by omega), tn_si_1, if_neg (by omega)]
  exact h.2.2.1
theorem s_stops {f : Nat} (h : mP t len f σ) : tq (f_X5_stops σ) (fun r σ' => r = nI f ∧ mSt tn_s0 σ') := by
  unfold f_X5_stops
  refine tq_lt (tq_lt (tq_some ⟨?_, ?_, ?_, fun k hk => absurd hk (Nat.not_lt_zero k), fun i hi => absurd hi (Nat.not_lt_zero i)⟩))
  · rw [tn_si_1, if_neg (by omega), tn_si_1, if_neg (by omega)]; exact h.2.2.1
  · rw [tn_si_1, if_neg (by omega), tn_si_1, if_pos ⟨rfl, rfl⟩]; rfl
  · rw [tn_si_1, if_pos ⟨rfl, rfl⟩]; rfl
theorem s_reads28 : ∀ j n (S : tS) (p : Nat) (σ : tn_M), tV S → mP t len p σ → mSt S σ → len - p < j → j < n → tq (F_X5_reads_28 n 1 σ) (fun r σ' => r = (tn_prl (tn_q t len) len j S p).1 ∧ mSt (tn_prl (tn_q t len) len j S p).2 σ') := by
  intro j
  induction j with
  | zero => intro n S p σ hV h hS hj; omega
  | succ j ih =>
    intro n S p σ hV h hS hj hjn
    obtain ⟨m, rfl⟩ : ∃ m, n = m + 1 := ⟨n - 1, by omega⟩
    rw [F_X5_reads_28, if_neg (by decide), s_here h, tn_bds, tn_prl]
    have bad : ∀ (τ : tn_M) f, mP t len f τ → tq (F_X5_reads_72 τ) (fun r σ' => r = nI f ∧ mSt tn_s0 σ') := by
      intro τ f hf
      unfold F_X5_reads_72
      exact tq_bd (s_stops hf) (fun r σ1 q => tq_some q)
    have good : ∀ (τ : tn_M) (a : tS × Nat), mP t len a.2 τ → p < a.2 → tV a.1 → mSt a.1 τ → tq (F_X5_reads_77 (fun z0 zs => F_X5_reads_28 m z0 zs) τ) (fun r σ' => r = (if a.2 < len then (if tn_q t len a.2 = 59 then tn_prl (tn_q t len) len j a.1 (a.2 + 1) else (nI a.2, tn_s0)) else (-1, a.1)).1 ∧ mSt (if a.2 < len then (if tn_q t len a.2 = 59 then tn_prl (tn_q t len) len j a.1 (a.2 + 1) else (nI a.2, tn_s0)) else (-1, a.1)).2 σ') := by
      intro τ a ha hpa hVa hSa
      have h4 := ha.2.2.2.1
      have h2 := ha.2.1
      unfold F_X5_reads_77
      refine tq_lt ?_
      rw [ha.1, ha.2.2.1]
      by_cases c : a.2 < len
      · rw [if_neg (nI_ge c (by omega)), if_neg (by decide), s_here ha, tn_bds]
        simp only [if_pos c]
        by_cases c2 : tn_q t len a.2 = 59
        · rw [if_pos c2]
          simp only [if_pos c2]
          unfold F_X5_reads_112
          refine tq_lt (tq_lt ?_)
          rw [if_neg (by decide)]
          have h1 := at_up5 ha c
          have hS1 : mSt a.1 (tn_si τ 5 7 (τ.1 5 7 + 1)) := mSt_keep hSa (tn_fr.si (by rfl) tn_fr.rf)
          exact ih m a.1 (a.2 + 1) _ hVa h1 hS1 (by omega) (by omega)
        · rw [if_neg c2]
          simp only [if_neg c2]
          exact bad τ a.2 ha
      · rw [if_pos (nI_le (by omega) (by omega)), if_pos rfl]
        simp only [if_neg c]
        unfold F_X5_reads_112
        refine tq_lt (tq_lt ?_)
        rw [if_pos rfl]
        obtain ⟨m', rfl⟩ : ∃ m', m = m' + 1 := ⟨m - 1, by omega⟩
        show tq (F_X5_reads_28 (m' + 1) 0 _) _
        rw [F_X5_reads_28, if_pos rfl]
        exact tq_some ⟨rfl, mSt_keep hSa (tn_fr.si (by rfl) tn_fr.rf)⟩
    by_cases c1 : tn_q t len p = 115
    · rw [if_pos c1]
      unfold F_X5_reads_49
      rw [if_pos c1]
      refine tq_bd (s_readsShop hV h (by rw [c1]; decide) hS) (fun r4 σ3 q => ?_)
      by_cases c5 : sn S < 5
      · rw [if_pos c5] at q
        have ep : tn_ppt (tn_q t len) S p = tn_sb (tn_psh (tn_q t len) p) (fun a p' => .inr (tn_ash S a.1.2 a.2, p')) := by
          unfold tn_ppt; rw [if_pos ⟨c1, c5⟩]
        have pi := @ppt_i (tn_q t len) S
        rw [ep]
        cases k : tn_psh (tn_q t len) p with
        | inl f =>
          rw [k] at q
          obtain ⟨rfl, q⟩ := q
          rw [if_pos rfl]
          exact bad _ _ q
        | inr a =>
          rw [k] at q ep
          obtain ⟨rfl, q1, q2⟩ := q
          rw [if_neg (by decide)]
          obtain ⟨hp', hV'⟩ := pi hV (ep.trans sb_r)
          exact good σ3 (_, _) q1 hp' hV' q2
      · rw [if_neg c5] at q
        obtain ⟨rfl, q⟩ := q
        have ep : tn_ppt (tn_q t len) S p = .inl p := by
          unfold tn_ppt; rw [if_neg (by omega), if_neg (by rw [c1]; intro hh; exact absurd hh.1 (by decide))]
        rw [ep, if_pos rfl]
        exact bad _ _ q
    · rw [if_neg c1]
      by_cases c2 : tn_q t len p = 98
      · rw [if_pos c2]
        unfold F_X5_reads_49
        rw [if_neg c1]
        refine tq_bd (s_readsSort hV h (by rw [c2]; decide) hS) (fun r4 σ3 q => ?_)
        by_cases c5 : sm S < 6
        · rw [if_pos c5] at q
          have ep : tn_ppt (tn_q t len) S p = tn_sb (tn_pso (tn_q t len) (sn S) p) (fun a p' => .inr (tn_aso S (tn_row a), p')) := by
            unfold tn_ppt; rw [if_neg (fun hh => c1 hh.1), if_pos ⟨c2, c5⟩]
          have pi := @ppt_i (tn_q t len) S
          rw [ep]
          cases k : tn_pso (tn_q t len) (sn S) p with
          | inl f =>
            rw [k] at q
            obtain ⟨rfl, q⟩ := q
            rw [if_pos rfl]
            exact bad _ _ q
          | inr a =>
            rw [k] at q ep
            obtain ⟨rfl, q1, q2⟩ := q
            rw [if_neg (by decide)]
            obtain ⟨hp', hV'⟩ := pi hV (ep.trans sb_r)
            exact good σ3 (_, _) q1 hp' hV' q2
        · rw [if_neg c5] at q
          obtain ⟨rfl, q⟩ := q
          have ep : tn_ppt (tn_q t len) S p = .inl p := by
            unfold tn_ppt; rw [if_neg (fun hh => c1 hh.1), if_neg (by omega)]
          rw [ep, if_pos rfl]
          exact bad _ _ q
      · rw [if_neg c2]
        have ep : tn_ppt (tn_q t len) S p = .inl p := by
          unfold tn_ppt; rw [if_neg (fun hh => c1 hh.1), if_neg (fun hh => c2 hh.1)]
        rw [ep]
        exact bad _ _ h
theorem s_reads (h1 : σ.1 5 6 = nI len) (h150 : len ≤ 150) (ht : ∀ j, j < len → σ.1 37 j = t j) : tq (f_X5_reads σ) (fun r σ' => r = (tn_prs t len).1 ∧ mSt (tn_prs t len).2 σ' ∧ tn_fr [(5, 7), (5, 8), (5, 11), (38, 999), (39, 999), (40, 999)] σ σ') := by
  have hfr := fr_X5_reads σ
  refine tq_mono (tq_fr (Q := fun r σ' => r = (tn_prs t len).1 ∧ mSt (tn_prs t len).2 σ') hfr ?_) (fun r σ' q => ⟨q.1.1, q.1.2, q.2⟩)
  · unfold f_X5_reads
    refine tq_lt (tq_lt (tq_lt (tq_lt ?_)))
    have e6 : (tn_si (tn_si (tn_si σ 5 7 0) 5 8 0) 5 11 0).1 5 6 = nI len := by simp only [tn_si_1]; rw [if_neg (by omega), if_neg (by omega), if_neg (by omega)]; exact h1
    rw [e6]
    have hS0 : mSt tn_s0 (tn_si (tn_si (tn_si σ 5 7 0) 5 8 0) 5 11 0) := by
      refine ⟨?_, ?_, fun k hk => absurd hk (Nat.not_lt_zero k), fun i hi => absurd hi (Nat.not_lt_zero i)⟩
      · rw [tn_si_1, if_neg (by omega), tn_si_1, if_pos ⟨rfl, rfl⟩]; rfl
      · rw [tn_si_1, if_pos ⟨rfl, rfl⟩]; rfl
    have hP0 : mP t len 0 (tn_si (tn_si (tn_si σ 5 7 0) 5 8 0) 5 11 0) := by
      refine ⟨e6, h150, ?_, by omega, fun j hj => ?_⟩
      · rw [tn_si_1, if_neg (by omega), tn_si_1, if_neg (by omega), tn_si_1, if_pos ⟨rfl, rfl⟩]; rfl
      · rw [tn_si_1, if_neg (by omega), tn_si_1, if_neg (by omega), tn_si_1, if_neg (by omega)]; exact ht j hj
    unfold tn_prs
    by_cases c : len = 0
    · simp only [if_pos c]
      rw [c, if_pos (by decide)]
      show tq (F_X5_reads_28 (1999 + 1) 0 _) _
      rw [F_X5_reads_28, if_pos rfl]
      exact tq_some ⟨rfl, hS0⟩
    · simp only [if_neg c]
      rw [if_neg (show ¬ nI len ≤ (0 : Int32) from nI_ge (a := 0) (by omega) (by omega))]
      exact s_reads28 152 tn_fuel tn_s0 0 _ s0_V hP0 hS0 (by omega) (by decide)
end MQ
