section PB
variable {t : Nat → Int32} {len p : Nat} {w : Int32} {σ : tn_M}
theorem s_isFigure (c : Int32) (σ : tn_M) : f_X2_isFigure c σ = some (if tn_dg c then 1 else 0, σ) := by
  unfold f_X2_isFigure tn_dg
  by_cases h1 : c < 48
  · have : c.toInt < 48 := (tn_lt32 _ _).mp h1
    rw [if_pos h1, if_neg (by simp; omega)]
  · have h1' : ¬ c.toInt < 48 := fun q => h1 ((tn_lt32 _ _).mpr q)
    rw [if_neg h1]
    by_cases h2 : (57 : Int32) < c
    · have : 57 < c.toInt := (tn_lt32 _ _).mp h2
      rw [if_pos h2, if_neg (by simp; omega)]
    · have h2' : ¬ 57 < c.toInt := fun q => h2 ((tn_lt32 _ _).mpr q)
      rw [if_neg h2, if_pos (by simp; omega)]
theorem s_takeNumber (h : cP t len w p σ) {lo hi : Nat} (hlo : lo < 1000) (hhi : hi < 1000) : tq (f_X2_takeNumber (nI lo) (nI hi) σ) (fun r σ' => (match tn_k2 (tn_q t len) lo (hi + 1) p with
    | .inl f => ∃ p', cP t len (tn_w w f) p' σ'
    | .inr a => r = nI a.1 ∧ cP t len w a.2 σ') ∧ tn_fr [(1, 7), (1, 8)] σ σ') := by
  refine tq_fr (fr_X2_takeNumber _ _ _) ?_
  -- the end, behind at least one figure
  have fin : ∀ (v p' : Nat) (τ : tn_M), v < 1000 → p < p' → p' ≤ 1000 → cP t len w p' τ → tq (F_X2_takeNumber_58 (nI lo) (nI hi) (nI p) (nI v) τ) (fun r σ' => match tn_rg lo (hi + 1) v p p' with
    | .inl f => ∃ p', cP t len (tn_w w f) p' σ'
    | .inr a => r = nI a.1 ∧ cP t len w a.2 σ') := by
    intro v p' τ hv hp hp2 hτ
    have bad : tq (F_X2_takeNumber_78 (nI p) (nI v) τ) (fun r σ' => ∃ p', cP t len (tn_w w p) p' σ') := by
      unfold F_X2_takeNumber_78
      exact tq_bd (s_fail hτ p) (fun _ σ' hq => tq_some ⟨p', hq.1⟩)
    have h5 := hτ.2.2.2.2.1
    have h6 := hτ.2.1
    unfold F_X2_takeNumber_58 tn_rg
    rw [hτ.2.2.2.1, if_neg (by rw [nI_eq (by omega) (by omega)]; omega)]
    by_cases c1 : v < lo
    · rw [if_pos (nI_lt c1 (by omega)), if_neg (by omega)]
      exact bad
    · rw [if_neg (nI_nlt (by omega) (by omega))]
      by_cases c2 : v ≤ hi
      · rw [if_pos (nI_le c2 (by omega)), if_pos (by omega)]
        exact tq_some ⟨rfl, hτ⟩
      · rw [if_neg (nI_ge (by omega) (by omega)), if_neg (by omega)]
        exact bad
  have h5 := h.2.2.2.2.1
  have h6 := h.2.1
  unfold f_X2_takeNumber
  rw [h.2.2.2.1]
  show tq (F_X2_takeNumber_11 (1997 + 1 + 1 + 1) (nI lo) (nI hi) (nI p) (nI 0) (nI 0) σ) _
  rw [F_X2_takeNumber_11, if_neg (by decide), s_next h, tn_bds, s_isFigure, tn_bds]
  unfold tn_k2
  by_cases d1 : tn_dg (tn_q t len p) = true
  · obtain ⟨e1, e2⟩ := dg_v d1
    rw [if_neg (by rw [if_pos d1]; decide), s_next h, tn_bds, if_pos d1]
    refine tq_lt (tq_lt ?_)
    have ev : (10 * nI 0 + tn_q t len p - 48 : Int32) = nI (tn_dv (tn_q t len p)) := by
      rw [show (10 * nI 0 + tn_q t len p - 48 : Int32) = 10 * nI 0 + nI (48 + tn_dv (tn_q t len p)) - 48 by rw [← e1], tn_L 10, pk_mul, nI_add, tn_L 48, pk_sub (by omega)]
      congr 1
      omega
    have h1 := at_up h (dg_lt d1)
    generalize hτ : tn_si σ 1 8 (σ.1 1 8 + 1) = τ at h1 ⊢
    rw [ev, nI_1, F_X2_takeNumber_11, if_neg (by decide), s_next h1, tn_bds, s_isFigure, tn_bds]
    by_cases d2 : tn_dg (tn_q t len (p + 1)) = true
    · obtain ⟨e3, e4⟩ := dg_v d2
      rw [if_neg (by rw [if_pos d2]; decide), s_next h1, tn_bds, if_pos d2]
      refine tq_lt (tq_lt ?_)
      have ev2 : (10 * nI (tn_dv (tn_q t len p)) + tn_q t len (p + 1) - 48 : Int32) = nI (10 * tn_dv (tn_q t len p) + tn_dv (tn_q t len (p + 1))) := by
        rw [show (10 * nI (tn_dv (tn_q t len p)) + tn_q t len (p + 1) - 48 : Int32) = 10 * nI (tn_dv (tn_q t len p)) + nI (48 + tn_dv (tn_q t len (p + 1))) - 48 by rw [← e3], tn_L 10, pk_mul, nI_add, tn_L 48, pk_sub (by omega)]
        congr 1
        omega
      have h2 := at_up h1 (dg_lt d2)
      have l2 := dg_lt d2
      rw [ev2, nI_1, F_X2_takeNumber_11, if_pos (by decide)]
      exact fin _ (p + 2) _ (by omega) (by omega) (by omega) h2
    · rw [if_pos (by rw [if_neg d2]), if_neg d2]
      exact fin _ (p + 1) τ (by omega) (by omega) (by omega) h1
  · rw [if_pos (by rw [if_neg d1]), if_neg d1]
    unfold F_X2_takeNumber_58
    rw [h.2.2.2.1, if_pos rfl]
    unfold F_X2_takeNumber_78
    exact tq_bd (s_fail h p) (fun _ σ' hq => tq_some ⟨p, hq.1⟩)
theorem s_takeLiked (h : cP t len w p σ) {n : Nat} (hn : n ≤ 5) (hs : σ.1 1 5 = nI n) : tq (f_X2_takeLiked σ) (fun r σ' => (match tn_kl (tn_q t len) n p with
    | .inl f => cP t len (tn_w w f) p σ'
    | .inr a => r = tn_lki a.1 ∧ cP t len w a.2 σ') ∧ tn_fr [(1, 7), (1, 8)] σ σ') := by
  refine tq_fr (fr_X2_takeLiked _) ?_
  unfold f_X2_takeLiked tn_kl
  rw [s_next h, tn_bds]
  refine tq_lt ?_
  have bad : tq (F_X2_takeLiked_38 σ) (fun _ σ' => cP t len (tn_w w p) p σ') := by
    unfold F_X2_takeLiked_38
    rw [h.2.2.2.1]
    exact tq_bd (s_fail h p) (fun _ σ' hq => tq_some hq.1)
  by_cases c : tn_q t len p = 45
  · rw [if_pos c, if_pos c, if_pos c]
    unfold F_X2_takeLiked_48
    exact tq_lt (tq_some ⟨rfl, at_up h (q_lt c (by decide))⟩)
  · rw [if_neg c, if_neg c, if_neg c, hs]
    unfold tn_k1
    rcases pk_ix (tn_q t len p - 48) (n := n) (by omega) with a | a | ⟨j, a, b⟩
    · rw [if_pos a]
      have e1 : tn_sb (if tn_dg (tn_q t len p) = true then tn_rg 0 n (tn_dv (tn_q t len p)) p (p + 1) else Sum.inl p) (fun v p' => (Sum.inr (some v, p') : Nat ⊕ (Option Nat × Nat))) = Sum.inl p := by
        by_cases d : tn_dg (tn_q t len p) = true
        · obtain ⟨d1, d2⟩ := dg_v d
          have e2 : tn_q t len p - 48 = nI (tn_dv (tn_q t len p)) := by
            rw [show tn_q t len p - 48 = nI (48 + tn_dv (tn_q t len p)) - 48 by rw [← d1], tn_L 48, pk_sub (by omega)]
            congr 1
            omega
          rw [e2] at a
          exact absurd a (nI_pos (by omega))
        · rw [if_neg d]; rfl
      rw [e1]
      exact tq_mono bad (fun _ _ h => h)
    · have e1 : tn_sb (if tn_dg (tn_q t len p) = true then tn_rg 0 n (tn_dv (tn_q t len p)) p (p + 1) else Sum.inl p) (fun v p' => (Sum.inr (some v, p') : Nat ⊕ (Option Nat × Nat))) = Sum.inl p := by
        by_cases d : tn_dg (tn_q t len p) = true
        · obtain ⟨d1, d2⟩ := dg_v d
          have e2 : tn_q t len p - 48 = nI (tn_dv (tn_q t len p)) := by
            rw [show tn_q t len p - 48 = nI (48 + tn_dv (tn_q t len p)) - 48 by rw [← d1], tn_L 48, pk_sub (by omega)]
            congr 1
            omega
          rw [e2, nI_leI (by omega) (by omega)] at a
          rw [if_pos d]
          unfold tn_rg
          rw [if_neg (by omega)]; rfl
        · rw [if_neg d]; rfl
      rw [e1]
      by_cases c0 : tn_q t len p - 48 < 0
      · rw [if_pos c0]
        exact tq_mono bad (fun _ _ h => h)
      · rw [if_neg c0, if_neg (Int32.not_lt.mpr a)]
        exact tq_mono bad (fun _ _ h => h)
    · rw [b, if_neg (nI_pos (by omega)), if_pos (nI_lt a (by omega))]
      have e2 : tn_q t len p = nI (48 + j) := by
        have : tn_q t len p = (tn_q t len p - 48) + 48 := by rw [Int32.sub_add_cancel]
        rw [this, b, tn_L 48, nI_add, Nat.add_comm]
      have d : tn_dg (tn_q t len p) = true ∧ tn_dv (tn_q t len p) = j := by
        unfold tn_dg tn_dv
        rw [e2, tn_t (by omega)]
        exact ⟨decide_eq_true (by omega), by omega⟩
      rw [if_pos d.1, d.2]
      unfold tn_rg
      rw [if_pos (by omega)]
      unfold F_X2_takeLiked_48
      exact tq_lt (tq_some ⟨rfl, at_up h (dg_lt d.1)⟩)
/-! a chain of tokens: all well so far, or the first fault -/
def cQ {α : Type} (t : Nat → Int32) (len : Nat) (o : Nat ⊕ (α × Nat)) (σ : tn_M) : Prop := match o with
  | .inl f => f ≤ 150 ∧ ∃ p, cP t len (nI f) p σ
  | .inr a => cP t len (-1) a.2 σ
theorem w_bad {f a : Nat} (hf : f ≤ 150) : tn_w (nI f) a = nI f := by
  unfold tn_w
  rw [if_neg (tn_m1ne (by omega))]
theorem w_ok (a : Nat) : tn_w (-1) a = nI a := rfl
theorem sb_inr {α β : Type} {o : Nat ⊕ (α × Nat)} {k : α → Nat → Nat ⊕ β} {y : β} (h : tn_sb o k = .inr y) : ∃ a p, o = .inr (a, p) ∧ k a p = .inr y := by
  cases o with
  | inl f => cases h
  | inr a => exact ⟨a.1, a.2, rfl, h⟩
theorem sb_r {α β : Type} {a : α × Nat} {k : α → Nat → Nat ⊕ β} : tn_sb (.inr a) k = k a.1 a.2 := rfl
theorem kc_f {q : Nat → Int32} {c : Int32} {p f : Nat} (h : tn_kc q c p = .inl f) : f = p := by
  unfold tn_kc at h
  split at h
  · cases h
  · cases h; rfl
theorem rg_f {lo hi v p p' f : Nat} (h : tn_rg lo hi v p p' = .inl f) : f = p := by
  unfold tn_rg at h
  split at h
  · cases h
  · cases h; rfl
theorem k1_f {q : Nat → Int32} {lo hi p f : Nat} (h : tn_k1 q lo hi p = .inl f) : f = p := by
  unfold tn_k1 at h
  split at h
  · exact rg_f h
  · cases h; rfl
theorem k2_f {q : Nat → Int32} {lo hi p f : Nat} (h : tn_k2 q lo hi p = .inl f) : f = p := by
  unfold tn_k2 at h
  split at h
  · split at h
    · exact rg_f h
    · exact rg_f h
  · cases h; rfl
theorem kl_f {q : Nat → Int32} {n p f : Nat} (h : tn_kl q n p = .inl f) : f = p := by
  unfold tn_kl at h
  split at h
  · cases h
  · cases hk : tn_k1 q 0 n p with
    | inl g => rw [hk] at h; cases h; exact k1_f hk
    | inr a => rw [hk] at h; cases h
theorem q_sign {α : Type} {o : Nat ⊕ (α × Nat)} (h : cQ t len o σ) {c : Int32} (hc : c ≠ -1) : tq (f_X2_takeSign c σ) (fun _ σ' => cQ t len (tn_sb o (fun a p => tn_sb (tn_kc (tn_q t len) c p) (fun _ p' => .inr (a, p')))) σ' ∧ tn_fr [(1, 7), (1, 8)] σ σ') := by
  cases o with
  | inl f =>
    obtain ⟨hf, p, hp⟩ := h
    refine tq_mono (s_takeSign hp hc) (fun _ σ' hq => ⟨⟨hf, ?_⟩, hq.2⟩)
    have h1 := hq.1
    revert h1
    split
    · intro h1; rw [w_bad hf] at h1; exact ⟨_, h1⟩
    · intro h1; exact ⟨_, h1⟩
  | inr a =>
    have h : cP t len (-1) a.2 σ := h
    refine tq_mono (s_takeSign h hc) (fun _ σ' hq => ⟨?_, hq.2⟩)
    have h1 := hq.1
    have hle := h.2.2.2.2.1
    have h150 := h.2.1
    rw [sb_r]
    cases hk : tn_kc (tn_q t len) c a.2 with
    | inl f =>
      rw [hk] at h1
      have := kc_f hk
      exact ⟨by omega, _, h1⟩
    | inr b => rw [hk] at h1; exact h1
theorem q_num {α : Type} {o : Nat ⊕ (α × Nat)} (h : cQ t len o σ) {lo hi : Nat} (hlo : lo < 1000) (hhi : hi < 1000) : tq (f_X2_takeNumber (nI lo) (nI hi) σ) (fun r σ' => cQ t len (tn_sb o (fun a p => tn_sb (tn_k2 (tn_q t len) lo (hi + 1) p) (fun b p' => .inr ((a, b), p')))) σ' ∧ (∀ a b p', tn_sb o (fun a p => tn_sb (tn_k2 (tn_q t len) lo (hi + 1) p) (fun b p' => (.inr ((a, b), p') : Nat ⊕ ((α × Nat) × Nat)))) = .inr ((a, b), p') → r = nI b) ∧ tn_fr [(1, 7), (1, 8)] σ σ') := by
  cases o with
  | inl f =>
    obtain ⟨hf, p, hp⟩ := h
    refine tq_mono (s_takeNumber hp hlo hhi) (fun _ σ' hq => ⟨⟨hf, ?_⟩, (fun a b p' e => by cases e), hq.2⟩)
    have h1 := hq.1
    revert h1
    split
    · rintro ⟨p', h1⟩; rw [w_bad hf] at h1; exact ⟨_, h1⟩
    · rintro ⟨-, h1⟩; exact ⟨_, h1⟩
  | inr a =>
    have h : cP t len (-1) a.2 σ := h
    refine tq_mono (s_takeNumber h hlo hhi) (fun r σ' hq => ?_)
    have h1 := hq.1
    have hle := h.2.2.2.2.1
    have h150 := h.2.1
    cases hk : tn_k2 (tn_q t len) lo (hi + 1) a.2 with
    | inl f =>
      rw [hk] at h1
      have := k2_f hk
      refine ⟨?_, fun a' b p' e => ?_, hq.2⟩
      · rw [sb_r, hk]
        obtain ⟨p', h1⟩ := h1
        exact ⟨by omega, _, h1⟩
      · have e : tn_sb (tn_k2 (tn_q t len) lo (hi + 1) a.2) (fun b p' => (Sum.inr ((a.1, b), p') : Nat ⊕ ((α × Nat) × Nat))) = .inr ((a', b), p') := e
        rw [hk] at e
        cases e
    | inr b =>
      rw [hk] at h1
      refine ⟨?_, fun a' b' p' e => ?_, hq.2⟩
      · rw [sb_r, hk]
        exact h1.2
      · have e : tn_sb (tn_k2 (tn_q t len) lo (hi + 1) a.2) (fun b p' => (Sum.inr ((a.1, b), p') : Nat ⊕ ((α × Nat) × Nat))) = .inr ((a', b'), p') := e
        rw [hk] at e
        cases e
        exact h1.1
theorem q_like {α : Type} {o : Nat ⊕ (α × Nat)} (h : cQ t len o σ) {n : Nat} (hn : n ≤ 5) (hs : σ.1 1 5 = nI n) : tq (f_X2_takeLiked σ) (fun r σ' => cQ t len (tn_sb o (fun a p => tn_sb (tn_kl (tn_q t len) n p) (fun b p' => .inr ((a, b), p')))) σ' ∧ (∀ a b p', tn_sb o (fun a p => tn_sb (tn_kl (tn_q t len) n p) (fun b p' => (.inr ((a, b), p') : Nat ⊕ ((α × Option Nat) × Nat)))) = .inr ((a, b), p') → r = tn_lki b) ∧ tn_fr [(1, 7), (1, 8)] σ σ') := by
  cases o with
  | inl f =>
    obtain ⟨hf, p, hp⟩ := h
    refine tq_mono (s_takeLiked hp hn hs) (fun _ σ' hq => ⟨⟨hf, ?_⟩, (fun a b p' e => by cases e), hq.2⟩)
    have h1 := hq.1
    revert h1
    split
    · intro h1; rw [w_bad hf] at h1; exact ⟨_, h1⟩
    · rintro ⟨-, h1⟩; exact ⟨_, h1⟩
  | inr a =>
    have h : cP t len (-1) a.2 σ := h
    refine tq_mono (s_takeLiked h hn hs) (fun r σ' hq => ?_)
    have h1 := hq.1
    have hle := h.2.2.2.2.1
    have h150 := h.2.1
    cases hk : tn_kl (tn_q t len) n a.2 with
    | inl f =>
      rw [hk] at h1
      have := kl_f hk
      refine ⟨?_, fun a' b p' e => ?_, hq.2⟩
      · rw [sb_r, hk]
        exact ⟨by omega, _, h1⟩
      · have e : tn_sb (tn_kl (tn_q t len) n a.2) (fun b p' => (Sum.inr ((a.1, b), p') : Nat ⊕ ((α × Option Nat) × Nat))) = .inr ((a', b), p') := e
        rw [hk] at e
        cases e
    | inr b =>
      rw [hk] at h1
      refine ⟨?_, fun a' b' p' e => ?_, hq.2⟩
      · rw [sb_r, hk]
        exact h1.2
      · have e : tn_sb (tn_kl (tn_q t len) n a.2) (fun b p' => (Sum.inr ((a.1, b), p') : Nat ⊕ ((α × Option Nat) × Nat))) = .inr ((a', b'), p') := e
        rw [hk] at e
        cases e
        exact h1.1
end PB
