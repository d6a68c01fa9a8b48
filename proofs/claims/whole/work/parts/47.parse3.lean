/-! shops, sorts, parts, the whole text -/
def tn_tC {α : Type} (q : Nat → Int32) (o : Nat ⊕ (α × Nat)) : Nat ⊕ (α × Nat) := tn_sb o (fun a p => tn_sb (tn_kc q 44 p) (fun _ p' => .inr (a, p')))
def tn_t1 {α : Type} (q : Nat → Int32) (lo hi : Nat) (o : Nat ⊕ (α × Nat)) : Nat ⊕ ((α × Nat) × Nat) := tn_sb o (fun a p => tn_sb (tn_k1 q lo hi p) (fun b p' => .inr ((a, b), p')))
def tn_t2 {α : Type} (q : Nat → Int32) (lo hi : Nat) (o : Nat ⊕ (α × Nat)) : Nat ⊕ ((α × Nat) × Nat) := tn_sb o (fun a p => tn_sb (tn_k2 q lo hi p) (fun b p' => .inr ((a, b), p')))
def tn_tl {α : Type} (q : Nat → Int32) (n : Nat) (o : Nat ⊕ (α × Nat)) : Nat ⊕ ((α × Option Nat) × Nat) := tn_sb o (fun a p => tn_sb (tn_kl q n p) (fun b p' => .inr ((a, b), p')))
def tn_psh (q : Nat → Int32) (p : Nat) : Nat ⊕ (((Unit × Nat) × Nat) × Nat) := tn_t2 q 0 100 (tn_tC q (tn_t1 q 1 4 (.inr ((), p + 1))))
def tn_pso (q : Nat → Int32) (n p : Nat) : Nat ⊕ ((((((Unit × Nat) × Nat) × Option Nat) × Nat) × Nat) × Nat) × Nat := tn_t2 q 1 100 (tn_tC q (tn_t2 q 0 17 (tn_tC q (tn_t2 q 0 17 (tn_tC q (tn_tl q n (tn_tC q (tn_t2 q 1 100 (tn_tC q (tn_t1 q 1 4 (.inr ((), p + 1))))))))))))
def tn_row (a : (((((Unit × Nat) × Nat) × Option Nat) × Nat) × Nat) × Nat) : tR := (a.1.1.1.1.1.2, a.1.1.1.1.2, a.1.1.1.2, a.1.1.2, a.1.2, a.2)
def tn_ash (S : tS) (v c : Nat) : tS := (sn S + 1, sm S, va_up (sz S) (sn S) v, va_up (sc S) (sn S) c, sr S)
def tn_aso (S : tS) (r : tR) : tS := (sn S, sm S + 1, sz S, sc S, va_up (sr S) (sm S) r)
def tn_ppt (q : Nat → Int32) (S : tS) (p : Nat) : Nat ⊕ (tS × Nat) :=
  if q p = 115 ∧ sn S < 5 then tn_sb (tn_psh q p) (fun a p' => .inr (tn_ash S a.1.2 a.2, p'))
  else if q p = 98 ∧ sm S < 6 then tn_sb (tn_pso q (sn S) p) (fun a p' => .inr (tn_aso S (tn_row a), p'))
  else .inl p
def tn_s0 : tS := (0, 0, fun _ => 0, fun _ => 0, fun _ => (0, 0, none, 0, 0, 0))
def tn_prl (q : Nat → Int32) (len : Nat) : Nat → tS → Nat → Int32 × tS
  | 0, _, _ => (-1, tn_s0)
  | j + 1, S, p => match tn_ppt q S p with
    | .inl f => (nI f, tn_s0)
    | .inr a => if a.2 < len then (if q a.2 = 59 then tn_prl q len j a.1 (a.2 + 1) else (nI a.2, tn_s0)) else (-1, a.1)
def tn_prs (t : Nat → Int32) (len : Nat) : Int32 × tS := if len = 0 then (-1, tn_s0) else tn_prl (tn_q t len) len 152 tn_s0 0
theorem kc_p {q : Nat → Int32} {c : Int32} {p : Nat} {a : Unit × Nat} (h : tn_kc q c p = .inr a) : p < a.2 := by
  unfold tn_kc at h
  split at h
  · cases h; exact Nat.lt_succ_self _
  · cases h
theorem rg_p {lo hi v p p' : Nat} {a : Nat × Nat} (h : tn_rg lo hi v p p' = .inr a) : a = (v, p') ∧ lo ≤ v ∧ v < hi := by
  unfold tn_rg at h
  split at h
  · next c => cases h; exact ⟨rfl, c⟩
  · cases h
theorem k1_p {q : Nat → Int32} {lo hi p : Nat} {a : Nat × Nat} (h : tn_k1 q lo hi p = .inr a) : p < a.2 ∧ lo ≤ a.1 ∧ a.1 < hi := by
  unfold tn_k1 at h
  split at h
  · obtain ⟨rfl, h1, h2⟩ := rg_p h
    exact ⟨Nat.lt_succ_self _, h1, h2⟩
  · cases h
theorem k2_p {q : Nat → Int32} {lo hi p : Nat} {a : Nat × Nat} (h : tn_k2 q lo hi p = .inr a) : p < a.2 ∧ lo ≤ a.1 ∧ a.1 < hi := by
  unfold tn_k2 at h
  split at h
  · split at h
    · obtain ⟨rfl, h1, h2⟩ := rg_p h
      exact ⟨by show p < p + 2; omega, h1, h2⟩
    · obtain ⟨rfl, h1, h2⟩ := rg_p h
      exact ⟨Nat.lt_succ_self _, h1, h2⟩
  · cases h
theorem kl_p {q : Nat → Int32} {n p : Nat} {a : Option Nat × Nat} (h : tn_kl q n p = .inr a) : p < a.2 ∧ ∀ l, a.1 = some l → l < n := by
  unfold tn_kl at h
  split at h
  · cases h; exact ⟨Nat.lt_succ_self _, fun l e => by cases e⟩
  · cases hk : tn_k1 q 0 n p with
    | inl g => rw [hk] at h; cases h
    | inr b =>
      rw [hk] at h
      cases h
      have := k1_p hk
      exact ⟨this.1, fun l e => by cases e; exact this.2.2⟩
theorem tC_i {α : Type} {q : Nat → Int32} {o : Nat ⊕ (α × Nat)} {a : α} {p' : Nat} (h : tn_tC q o = .inr (a, p')) : ∃ p, o = .inr (a, p) ∧ p < p' := by
  obtain ⟨a1, p, e, h1⟩ := sb_inr h
  obtain ⟨u, p2, e2, h2⟩ := sb_inr h1
  cases h2
  exact ⟨p, e, kc_p e2⟩
theorem t1_i {α : Type} {q : Nat → Int32} {lo hi : Nat} {o : Nat ⊕ (α × Nat)} {a : α} {b p' : Nat} (h : tn_t1 q lo hi o = .inr ((a, b), p')) : ∃ p, o = .inr (a, p) ∧ p < p' ∧ lo ≤ b ∧ b < hi := by
  obtain ⟨a1, p, e, h1⟩ := sb_inr h
  obtain ⟨u, p2, e2, h2⟩ := sb_inr h1
  cases h2
  exact ⟨p, e, k1_p e2⟩
theorem t2_i {α : Type} {q : Nat → Int32} {lo hi : Nat} {o : Nat ⊕ (α × Nat)} {a : α} {b p' : Nat} (h : tn_t2 q lo hi o = .inr ((a, b), p')) : ∃ p, o = .inr (a, p) ∧ p < p' ∧ lo ≤ b ∧ b < hi := by
  obtain ⟨a1, p, e, h1⟩ := sb_inr h
  obtain ⟨u, p2, e2, h2⟩ := sb_inr h1
  cases h2
  exact ⟨p, e, k2_p e2⟩
theorem tl_i {α : Type} {q : Nat → Int32} {n : Nat} {o : Nat ⊕ (α × Nat)} {a : α} {b : Option Nat} {p' : Nat} (h : tn_tl q n o = .inr ((a, b), p')) : ∃ p, o = .inr (a, p) ∧ p < p' ∧ ∀ l, b = some l → l < n := by
  obtain ⟨a1, p, e, h1⟩ := sb_inr h
  obtain ⟨u, p2, e2, h2⟩ := sb_inr h1
  cases h2
  exact ⟨p, e, kl_p e2⟩
theorem psh_i {q : Nat → Int32} {p p' : Nat} {a : (Unit × Nat) × Nat} (h : tn_psh q p = .inr (a, p')) : p < p' ∧ 1 ≤ a.1.2 ∧ a.1.2 ≤ 3 ∧ a.2 ≤ 99 := by
  obtain ⟨⟨u, v⟩, c⟩ := a
  obtain ⟨p1, h1, l1, -, r1⟩ := t2_i h
  obtain ⟨p2, h2, l2⟩ := tC_i h1
  obtain ⟨p3, h3, l3, r2, r3⟩ := t1_i h2
  cases h3
  exact ⟨by omega, r2, by show v ≤ 3; omega, by show c ≤ 99; omega⟩
theorem pso_i {q : Nat → Int32} {n p p' : Nat} {a : (((((Unit × Nat) × Nat) × Option Nat) × Nat) × Nat) × Nat} (h : tn_pso q n p = .inr (a, p')) : p < p' ∧ tVR n (tn_row a) := by
  obtain ⟨⟨⟨⟨⟨⟨u, hr⟩, mn⟩, lk⟩, go⟩, bk⟩, wo⟩ := a
  obtain ⟨q1, h1, l1, a1, b1⟩ := t2_i h
  obtain ⟨q2, h2, l2⟩ := tC_i h1
  obtain ⟨q3, h3, l3, a3, b3⟩ := t2_i h2
  obtain ⟨q4, h4, l4⟩ := tC_i h3
  obtain ⟨q5, h5, l5, a5, b5⟩ := t2_i h4
  obtain ⟨q6, h6, l6⟩ := tC_i h5
  obtain ⟨q7, h7, l7, a7⟩ := tl_i h6
  obtain ⟨q8, h8, l8⟩ := tC_i h7
  obtain ⟨q9, h9, l9, a9, b9⟩ := t2_i h8
  obtain ⟨q10, h10, l10⟩ := tC_i h9
  obtain ⟨q11, h11, l11, a11, b11⟩ := t1_i h10
  cases h11
  refine ⟨by omega, ?_⟩
  unfold tVR tn_row
  exact ⟨a11, by show hr ≤ 3; omega, a9, by show mn ≤ 99; omega, a7, by show go ≤ 16; omega, by show bk ≤ 16; omega, a1, by show wo ≤ 99; omega⟩
theorem ppt_i {q : Nat → Int32} {S S' : tS} {p p' : Nat} (hV : tV S) (h : tn_ppt q S p = .inr (S', p')) : p < p' ∧ tV S' := by
  unfold tn_ppt at h
  split at h
  · next c =>
    obtain ⟨a, p1, e, h1⟩ := sb_inr h
    cases h1
    obtain ⟨h2, h3, h4, h5⟩ := psh_i e
    refine ⟨h2, by show sn S + 1 ≤ 5; omega, hV.2.1, fun k hk => ?_, fun i hi => ?_⟩
    · show 1 ≤ va_up (sz S) (sn S) a.1.2 k ∧ va_up (sz S) (sn S) a.1.2 k ≤ 3 ∧ va_up (sc S) (sn S) a.2 k ≤ 99
      have hk : k < sn S + 1 := hk
      unfold va_up
      by_cases c1 : k = sn S
      · simp [c1, h3, h4, h5]
      · simp only [c1, if_false]
        exact hV.2.2.1 k (by omega)
    · obtain ⟨a1, a2, a3, a4, a5, a6⟩ := hV.2.2.2 i hi
      exact ⟨a1, a2, a3, a4, fun l hl => Nat.lt_succ_of_lt (a5 l hl), a6⟩
  · split at h
    · next c =>
      obtain ⟨a, p1, e, h1⟩ := sb_inr h
      cases h1
      obtain ⟨h2, h3⟩ := pso_i e
      refine ⟨h2, hV.1, by show sm S + 1 ≤ 6; omega, hV.2.2.1, fun i hi => ?_⟩
      show tVR (sn S) (va_up (sr S) (sm S) (tn_row a) i)
      have hi : i < sm S + 1 := hi
      unfold va_up
      by_cases c1 : i = sm S
      · simp [c1, h3]
      · simp only [c1, if_false]
        exact hV.2.2.2 i (by omega)
    · cases h
theorem s0_V : tV tn_s0 := ⟨by decide, by decide, fun k hk => absurd hk (Nat.not_lt_zero k), fun i hi => absurd hi (Nat.not_lt_zero i)⟩
theorem prl_V {q : Nat → Int32} {len : Nat} : ∀ j S p, tV S → tV (tn_prl q len j S p).2
  | 0, _, _, _ => s0_V
  | j + 1, S, p, h => by
    unfold tn_prl
    cases hp : tn_ppt q S p with
    | inl f => exact s0_V
    | inr a =>
      have := ppt_i h (by rw [hp] : tn_ppt q S p = .inr (a.1, a.2))
      show tV (if a.2 < len then (if q a.2 = 59 then tn_prl q len j a.1 (a.2 + 1) else (nI a.2, tn_s0)) else (-1, a.1)).2
      split
      · split
        · exact prl_V j _ _ this.2
        · exact s0_V
      · exact this.2
theorem prs_V (t : Nat → Int32) (len : Nat) : tV (tn_prs t len).2 := by
  unfold tn_prs
  split
  · exact s0_V
  · exact prl_V _ _ _ s0_V
section PC
variable {t : Nat → Int32} {len p : Nat} {w : Int32} {σ : tn_M}
theorem q_fig {α : Type} {o : Nat ⊕ (α × Nat)} (h : cQ t len o σ) : tq (f_X2_takeFigure σ) (fun r σ' => cQ t len (tn_t1 (tn_q t len) 1 4 o) σ' ∧ (∀ a b p', tn_t1 (tn_q t len) 1 4 o = .inr ((a, b), p') → r = nI b) ∧ tn_fr [(1, 7), (1, 8)] σ σ') := by
  cases o with
  | inl f =>
    obtain ⟨hf, p, hp⟩ := h
    refine tq_mono (s_takeFigure hp) (fun _ σ' hq => ⟨⟨hf, ?_⟩, (fun a b p' e => by cases e), hq.2⟩)
    have h1 := hq.1
    revert h1
    split
    · intro h1; rw [w_bad hf] at h1; exact ⟨_, h1⟩
    · rintro ⟨-, h1⟩; exact ⟨_, h1⟩
  | inr a =>
    have h : cP t len (-1) a.2 σ := h
    refine tq_mono (s_takeFigure h) (fun r σ' hq => ?_)
    have h1 := hq.1
    have hle := h.2.2.2.2.1
    have h150 := h.2.1
    unfold tn_t1
    rw [sb_r]
    cases hk : tn_k1 (tn_q t len) 1 4 a.2 with
    | inl f =>
      rw [hk] at h1
      have := k1_f hk
      exact ⟨⟨by omega, _, h1⟩, (fun a' b p' e => by cases e), hq.2⟩
    | inr b =>
      rw [hk] at h1
      exact ⟨h1.2, (fun a' b' p' e => by cases e; exact h1.1), hq.2⟩
theorem cQ_fr {α : Type} {o : Nat ⊕ (α × Nat)} {σ' : tn_M} (h : cQ t len o σ) (e : ∀ a b, (a = 1 ∧ (b = 4 ∨ b = 7 ∨ b = 8)) ∨ a = 9 → σ'.1 a b = σ.1 a b) : cQ t len o σ' := by
  have key : ∀ w p, cP t len w p σ → cP t len w p σ' := by
    intro w p ⟨h1, h2, h3, h4, h5, h6⟩
    exact ⟨by rw [e 1 4 (by omega)]; exact h1, h2, by rw [e 1 7 (by omega)]; exact h3, by rw [e 1 8 (by omega)]; exact h4, h5, fun j hj => by rw [e 9 j (by omega)]; exact h6 j hj⟩
  cases o with
  | inl f => exact ⟨h.1, h.2.choose, key _ _ h.2.choose_spec⟩
  | inr a => exact key _ _ h
theorem s_takeShop {S : tS} (hV : tV S) (h : cP t len (-1) p σ) (hp : p < len) (hS : cSt S σ) (h5 : sn S < 5) : tq (f_X2_takeShop σ) (fun _ σ' => match tn_psh (tn_q t len) p with
    | .inl f => f ≤ 150 ∧ ∃ p', cP t len (nI f) p' σ'
    | .inr a => cP t len (-1) a.2 σ' ∧ cSt (tn_ash S a.1.1.2 a.1.2) σ') := by
  have hm := hV.2.1
  unfold f_X2_takeShop
  refine tq_lt ?_
  have h1 : cQ t len (Sum.inr ((), p + 1) : Nat ⊕ (Unit × Nat)) (tn_si σ 1 8 (σ.1 1 8 + 1)) := at_up h hp
  have hS1 : cSt S (tn_si σ 1 8 (σ.1 1 8 + 1)) := cSt_same hS (fun a b hab => by rw [tn_si_1, if_neg (by omega)]) hm
  generalize tn_si σ 1 8 (σ.1 1 8 + 1) = σ1 at h1 hS1 ⊢
  have keep : ∀ {τ τ' : tn_M}, cSt S τ → tn_fr [(1, 7), (1, 8)] τ τ' → cSt S τ' := fun hs hf => cSt_same hs (fun a b hab => hf.i a b (by unfold tn_ms; simp; omega)) hm
  refine tq_bd (q_fig h1) (fun r3 σ2 ⟨q2, v2, f2⟩ => ?_)
  refine tq_bd (q_sign q2 (c := 44) (by decide)) (fun _ σ4 ⟨q4, f4⟩ => ?_)
  refine tq_bd (q_num q4 (lo := 0) (hi := 99) (by omega) (by omega)) (fun r6 σ5 ⟨q5, v5, f5⟩ => ?_)
  have hS5 := keep (keep (keep hS1 f2) f4) f5
  change cQ t len (tn_psh (tn_q t len) p) σ5 at q5
  change ∀ a b p', tn_psh (tn_q t len) p = Sum.inr ((a, b), p') → r6 = nI b at v5
  cases hk : tn_psh (tn_q t len) p with
  | inl f =>
    rw [hk] at q5
    obtain ⟨hf, p', hp'⟩ := q5
    rw [hp'.2.2.1, if_neg (tn_m1ne (by omega))]
    exact tq_some ⟨hf, p', hp'⟩
  | inr a =>
    obtain ⟨⟨⟨u, v⟩, c⟩, p'⟩ := a
    rw [hk] at q5
    have q5 : cP t len (-1) p' σ5 := q5
    have e6 : r6 = nI c := v5 _ _ _ hk
    obtain ⟨p1, k1, -⟩ := t2_i hk
    obtain ⟨p2, k2, -⟩ := tC_i k1
    have e3 : r3 = nI v := v2 _ _ _ k2
    rw [q5.2.2.1, if_pos rfl, hS5.1, tn_ckn h5 (by decide), tn_xn (by omega)]
    refine tq_lt ?_
    have e15 : (tn_si σ5 10 (sn S) r3).1 1 5 = nI (sn S) := by rw [tn_si_1, if_neg (by omega)]; exact hS5.1
    rw [e15, tn_ckn h5 (by decide), tn_xn (by omega)]
    refine tq_lt ?_
    have e15' : (tn_si (tn_si σ5 10 (sn S) r3) 11 (sn S) r6).1 1 5 = nI (sn S) := by rw [tn_si_1, if_neg (by omega)]; exact e15
    rw [e15', nI_1]
    refine tq_lt (tq_some ⟨?_, ?_⟩)
    · have := cQ_fr (o := (Sum.inr ((), p') : Nat ⊕ (Unit × Nat))) (σ' := tn_si (tn_si (tn_si σ5 10 (sn S) r3) 11 (sn S) r6) 1 5 (nI (sn S + 1))) q5 (fun a b hab => by
        rw [tn_si_1, if_neg (by omega), tn_si_1, if_neg (by omega), tn_si_1, if_neg (by omega)])
      exact this
    · refine ⟨?_, ?_, fun k hk2 => ?_, fun i hi j hj => ?_⟩
      · rw [tn_si_1, if_pos ⟨rfl, rfl⟩]; rfl
      · rw [tn_si_1, if_neg (by omega), tn_si_1, if_neg (by omega), tn_si_1, if_neg (by omega)]; exact hS5.2.1
      · have hk2 : k < sn S + 1 := hk2
        show _ = nI (va_up (sz S) (sn S) v k) ∧ _ = nI (va_up (sc S) (sn S) c k)
        unfold va_up
        by_cases c1 : k = sn S
        · subst c1
          simp [tn_si_1, e3, e6]
        · simp [tn_si_1, c1]
          exact hS5.2.2.1 k (by omega)
      · have hi : i < sm S := hi
        rw [tn_si_1, if_neg (by omega), tn_si_1, if_neg (by omega), tn_si_1, if_neg (by omega)]
        exact hS5.2.2.2 i hi j hj
theorem s_takeSort {S : tS} (hV : tV S) (h : cP t len (-1) p σ) (hp : p < len) (hS : cSt S σ) (h6 : sm S < 6) : tq (f_X2_takeSort σ) (fun _ σ' => match tn_pso (tn_q t len) (sn S) p with
    | .inl f => f ≤ 150 ∧ ∃ p', cP t len (nI f) p' σ'
    | .inr a => cP t len (-1) a.2 σ' ∧ cSt (tn_aso S (tn_row a.1)) σ') := by
  have hn := hV.1
  have hm := hV.2.1
  unfold f_X2_takeSort
  refine tq_lt ?_
  have h1 : cQ t len (Sum.inr ((), p + 1) : Nat ⊕ (Unit × Nat)) (tn_si σ 1 8 (σ.1 1 8 + 1)) := at_up h hp
  have hS1 : cSt S (tn_si σ 1 8 (σ.1 1 8 + 1)) := cSt_same hS (fun a b hab => by rw [tn_si_1, if_neg (by omega)]) hm
  generalize tn_si σ 1 8 (σ.1 1 8 + 1) = σ1 at h1 hS1 ⊢
  rw [hS1.2.1, tn_ckn h6 (by decide), tn_xn (by omega)]
  have keep : ∀ {τ τ' : tn_M}, cSt S τ → tn_fr [(1, 7), (1, 8)] τ τ' → cSt S τ' := fun hs hf => cSt_same hs (fun a b hab => hf.i a b (by unfold tn_ms; simp; omega)) hm
  have put : ∀ {τ : tn_M} (j : Nat) (x : Int32), cSt S τ → cSt S (tn_si τ (12 + 1 + sm S) j x) := by
    intro τ j x hs
    obtain ⟨a1, a2, a3, a4⟩ := hs
    refine ⟨by rw [tn_si_1, if_neg (by omega)]; exact a1, by rw [tn_si_1, if_neg (by omega)]; exact a2, fun k hk => ?_, fun i hi b hb => ?_⟩
    · rw [tn_si_1, if_neg (by omega), tn_si_1, if_neg (by omega)]; exact a3 k hk
    · rw [tn_si_1, if_neg (by omega)]; exact a4 i hi b hb
  have putQ : ∀ {α : Type} {o : Nat ⊕ (α × Nat)} {τ : tn_M} (j : Nat) (x : Int32), cQ t len o τ → cQ t len o (tn_si τ (12 + 1 + sm S) j x) := fun j x hq => cQ_fr hq (fun a b hab => by rw [tn_si_1, if_neg (by omega)])
  have row : ∀ {τ τ' : tn_M} (b : Nat), tn_fr [(1, 7), (1, 8)] τ τ' → τ'.1 (12 + 1 + sm S) b = τ.1 (12 + 1 + sm S) b := fun b hf => hf.i _ _ (by unfold tn_ms; simp; omega)
  refine tq_bd (q_fig h1) (fun r4 σ3 ⟨q3, v3, f3⟩ => tq_lt ?_)
  have s5 := put 0 r4 (keep hS1 f3)
  refine tq_bd (q_sign (putQ 0 r4 q3) (c := 44) (by decide)) (fun _ σ6 ⟨q6, f6⟩ => ?_)
  refine tq_bd (q_num q6 (lo := 1) (hi := 99) (by omega) (by omega)) (fun r8 σ7 ⟨q7, v7, f7⟩ => tq_lt ?_)
  have s9 := put 1 r8 (keep (keep s5 f6) f7)
  refine tq_bd (q_sign (putQ 1 r8 q7) (c := 44) (by decide)) (fun _ σ10 ⟨q10, f10⟩ => ?_)
  have s10 := keep s9 f10
  refine tq_bd (q_like q10 hn s10.1) (fun r12 σ11 ⟨q11, v11, f11⟩ => tq_lt ?_)
  have s13 := put 2 r12 (keep s10 f11)
  refine tq_bd (q_sign (putQ 2 r12 q11) (c := 44) (by decide)) (fun _ σ14 ⟨q14, f14⟩ => ?_)
  refine tq_bd (q_num q14 (lo := 0) (hi := 16) (by omega) (by omega)) (fun r16 σ15 ⟨q15, v15, f15⟩ => tq_lt ?_)
  have s17 := put 3 r16 (keep (keep s13 f14) f15)
  refine tq_bd (q_sign (putQ 3 r16 q15) (c := 44) (by decide)) (fun _ σ18 ⟨q18, f18⟩ => ?_)
  refine tq_bd (q_num q18 (lo := 0) (hi := 16) (by omega) (by omega)) (fun r20 σ19 ⟨q19, v19, f19⟩ => tq_lt ?_)
  have s21 := put 4 r20 (keep (keep s17 f18) f19)
  refine tq_bd (q_sign (putQ 4 r20 q19) (c := 44) (by decide)) (fun _ σ22 ⟨q22, f22⟩ => ?_)
  refine tq_bd (q_num q22 (lo := 1) (hi := 99) (by omega) (by omega)) (fun r24 σ23 ⟨q23, v23, f23⟩ => tq_lt ?_)
  have s25 := put 5 r24 (keep (keep s21 f22) f23)
  have q25 := putQ 5 r24 q23
  change cQ t len (tn_pso (tn_q t len) (sn S) p) _ at q25
  have w0 : (tn_si σ23 (12 + 1 + sm S) 5 r24).1 (12 + 1 + sm S) 0 = r4 := by
    rw [tn_si_1, if_neg (by omega), row 0 f23, row 0 f22, tn_si_1, if_neg (by omega), row 0 f19, row 0 f18, tn_si_1, if_neg (by omega), row 0 f15, row 0 f14, tn_si_1, if_neg (by omega), row 0 f11, row 0 f10, tn_si_1, if_neg (by omega), row 0 f7, row 0 f6, tn_si_1, if_pos ⟨rfl, rfl⟩]
  have w1 : (tn_si σ23 (12 + 1 + sm S) 5 r24).1 (12 + 1 + sm S) 1 = r8 := by
    rw [tn_si_1, if_neg (by omega), row 1 f23, row 1 f22, tn_si_1, if_neg (by omega), row 1 f19, row 1 f18, tn_si_1, if_neg (by omega), row 1 f15, row 1 f14, tn_si_1, if_neg (by omega), row 1 f11, row 1 f10, tn_si_1, if_pos ⟨rfl, rfl⟩]
  have w2 : (tn_si σ23 (12 + 1 + sm S) 5 r24).1 (12 + 1 + sm S) 2 = r12 := by
    rw [tn_si_1, if_neg (by omega), row 2 f23, row 2 f22, tn_si_1, if_neg (by omega), row 2 f19, row 2 f18, tn_si_1, if_neg (by omega), row 2 f15, row 2 f14, tn_si_1, if_pos ⟨rfl, rfl⟩]
  have w3 : (tn_si σ23 (12 + 1 + sm S) 5 r24).1 (12 + 1 + sm S) 3 = r16 := by
    rw [tn_si_1, if_neg (by omega), row 3 f23, row 3 f22, tn_si_1, if_neg (by omega), row 3 f19, row 3 f18, tn_si_1, if_pos ⟨rfl, rfl⟩]
  have w4 : (tn_si σ23 (12 + 1 + sm S) 5 r24).1 (12 + 1 + sm S) 4 = r20 := by
    rw [tn_si_1, if_neg (by omega), row 4 f23, row 4 f22, tn_si_1, if_pos ⟨rfl, rfl⟩]
  have w5 : (tn_si σ23 (12 + 1 + sm S) 5 r24).1 (12 + 1 + sm S) 5 = r24 := by
    rw [tn_si_1, if_pos ⟨rfl, rfl⟩]
  generalize tn_si σ23 (12 + 1 + sm S) 5 r24 = τ at s25 q25 w0 w1 w2 w3 w4 w5 ⊢
  cases hk : tn_pso (tn_q t len) (sn S) p with
  | inl f =>
    rw [hk] at q25
    obtain ⟨hf, p', hp'⟩ := q25
    rw [hp'.2.2.1, if_neg (tn_m1ne (by omega))]
    exact tq_some ⟨hf, p', hp'⟩
  | inr a =>
    obtain ⟨⟨⟨⟨⟨⟨⟨u, hr⟩, mn⟩, lk⟩, go⟩, bk⟩, wo⟩, p'⟩ := a
    rw [hk] at q25
    have q25 : cP t len (-1) p' τ := q25
    obtain ⟨_, k1, -⟩ := t2_i hk
    obtain ⟨_, k2, -⟩ := tC_i k1
    obtain ⟨_, k3, -⟩ := t2_i k2
    obtain ⟨_, k4, -⟩ := tC_i k3
    obtain ⟨_, k5, -⟩ := t2_i k4
    obtain ⟨_, k6, -⟩ := tC_i k5
    obtain ⟨_, k7, -⟩ := tl_i k6
    obtain ⟨_, k8, -⟩ := tC_i k7
    obtain ⟨_, k9, -⟩ := t2_i k8
    obtain ⟨_, k10, -⟩ := tC_i k9
    have e5 : r24 = nI wo := v23 _ _ _ hk
    have e4 : r20 = nI bk := v19 _ _ _ k2
    have e3 : r16 = nI go := v15 _ _ _ k4
    have e2 : r12 = tn_lki lk := v11 _ _ _ k6
    have e1 : r8 = nI mn := v7 _ _ _ k8
    have e0 : r4 = nI hr := v3 _ _ _ k10
    rw [q25.2.2.1, if_pos rfl, s25.2.1, nI_1]
    refine tq_lt (tq_some ⟨?_, ?_⟩)
    · exact cQ_fr (o := (Sum.inr ((), p') : Nat ⊕ (Unit × Nat))) q25 (fun a b hab => by rw [tn_si_1, if_neg (by omega)])
    · refine ⟨?_, ?_, fun k hk2 => ?_, fun i hi j hj => ?_⟩
      · rw [tn_si_1, if_neg (by omega)]; exact s25.1
      · rw [tn_si_1, if_pos ⟨rfl, rfl⟩]; rfl
      · rw [tn_si_1, if_neg (by omega), tn_si_1, if_neg (by omega)]; exact s25.2.2.1 k hk2
      · have hi : i < sm S + 1 := hi
        rw [tn_si_1, if_neg (by omega)]
        show τ.1 (13 + i) j = tn_er (va_up (sr S) (sm S) (tn_row ((((((u, hr), mn), lk), go), bk), wo)) i) j
        unfold va_up
        by_cases c1 : i = sm S
        · subst c1
          rw [if_pos rfl]
          rcases (by omega : j = 0 ∨ j = 1 ∨ j = 2 ∨ j = 3 ∨ j = 4 ∨ j = 5) with rfl | rfl | rfl | rfl | rfl | rfl
          · exact w0.trans e0
          · exact w1.trans e1
          · exact w2.trans e2
          · exact w3.trans e3
          · exact w4.trans e4
          · exact w5.trans e5
        · rw [if_neg c1]
          exact s25.2.2.2 i (by omega) j hj
theorem s_takePart {S : tS} (hV : tV S) (h : cP t len (-1) p σ) (hS : cSt S σ) : tq (f_X2_takePart σ) (fun _ σ' => match tn_ppt (tn_q t len) S p with
    | .inl f => f ≤ 150 ∧ ∃ p', cP t len (nI f) p' σ'
    | .inr a => cP t len (-1) a.2 σ' ∧ cSt a.1 σ') := by
  have hn := hV.1
  have hm := hV.2.1
  unfold f_X2_takePart tn_ppt
  rw [s_next h, tn_bds, hS.1]
  have h5 := h.2.2.2.2.1
  have h150 := h.2.1
  have bad : tq (F_X2_takePart_48 σ) (fun _ σ' => p ≤ 150 ∧ ∃ p', cP t len (nI p) p' σ') := by
    unfold F_X2_takePart_48
    rw [h.2.2.2.1]
    exact tq_bd (s_fail h p) (fun _ σ' hq => tq_some ⟨by omega, p, hq.1⟩)
  have p26 : ¬ (tn_q t len p = 115 ∧ sn S < 5) → tq (F_X2_takePart_26 (tn_q t len p) σ) (fun _ σ' => match (if tn_q t len p = 98 ∧ sm S < 6 then tn_sb (tn_pso (tn_q t len) (sn S) p) (fun a p' => .inr (tn_aso S (tn_row a), p')) else .inl p : Nat ⊕ (tS × Nat)) with
    | .inl f => f ≤ 150 ∧ ∃ p', cP t len (nI f) p' σ'
    | .inr a => cP t len (-1) a.2 σ' ∧ cSt a.1 σ') := by
    intro _
    unfold F_X2_takePart_26
    rw [hS.2.1]
    by_cases c : tn_q t len p = 98
    · rw [if_pos c]
      by_cases c6 : sm S < 6
      · rw [tn_L 6, if_neg (nI_ge c6 (by omega)), if_pos ⟨c, c6⟩]
        refine tq_bd (s_takeSort hV h (q_lt c (by decide)) hS c6) (fun _ σ' hq => tq_some ?_)
        cases hk : tn_pso (tn_q t len) (sn S) p with
        | inl f => rw [hk] at hq; exact hq
        | inr a => rw [hk] at hq; exact hq
      · rw [tn_L 6, if_pos (nI_le (by omega) (by omega)), if_neg (fun q => c6 q.2)]
        exact bad
    · rw [if_neg c, if_neg (fun q => c q.1)]
      exact bad
  by_cases c : tn_q t len p = 115
  · rw [if_pos c]
    by_cases c5 : sn S < 5
    · rw [tn_L 5, if_neg (nI_ge c5 (by omega)), if_pos ⟨c, c5⟩]
      refine tq_bd (s_takeShop hV h (q_lt c (by decide)) hS c5) (fun _ σ' hq => tq_some ?_)
      cases hk : tn_psh (tn_q t len) p with
      | inl f => rw [hk] at hq; exact hq
      | inr a => rw [hk] at hq; exact hq
    · rw [tn_L 5, if_pos (nI_le (by omega) (by omega)), if_neg (fun q => c5 q.2)]
      exact p26 (fun q => c5 q.2)
  · rw [if_neg c, if_neg (fun q => c q.1)]
    exact p26 (fun q => c q.1)
theorem s_parse35 : ∀ j n x2 (S : tS) (p : Nat) (σ : tn_M), tV S → cP t len (-1) p σ → cSt S σ → x2 ≤ p → len - p < j → j < n → tq (F_X2_parse_35 n 1 (nI x2) σ) (fun _ σ' => σ'.1 1 7 = (tn_prl (tn_q t len) len j S p).1 ∧ cSt (tn_prl (tn_q t len) len j S p).2 σ') := by
  intro j
  induction j with
  | zero => intro n x2 S p σ hV h hS h1 h2 h3; omega
  | succ j ih =>
    intro n x2 S p σ hV h hS h1 h2 h3
    obtain ⟨m, rfl⟩ : ∃ m, n = m + 1 := ⟨n - 1, by omega⟩
    have h5 := h.2.2.2.2.1
    have h150 := h.2.1
    rw [F_X2_parse_35, tn_L 150, if_neg (nI_nlt (by omega) (by omega)), if_neg (by decide)]
    -- the end with a fault
    have endBad : ∀ (f p' : Nat) (k : Nat) (τ : tn_M), f ≤ 150 → k ≤ 200 → cP t len (nI f) p' τ → tq (F_X2_parse_35 m 0 (nI k) τ) (fun _ σ' => σ'.1 1 7 = nI f ∧ cSt tn_s0 σ') := by
      intro f p' k τ hf hk hτ
      obtain ⟨m2, rfl⟩ : ∃ m2, m = m2 + 1 := ⟨m - 1, by omega⟩
      have e105 : tq (F_X2_parse_105 τ) (fun _ σ' => σ'.1 1 7 = nI f ∧ cSt tn_s0 σ') := by
        unfold F_X2_parse_105
        rw [hτ.2.2.1, if_neg (tn_m1ne (by omega))]
        refine tq_lt (tq_lt (tq_some ⟨?_, ?_, ?_, fun k hk => absurd hk (Nat.not_lt_zero k), fun i hi => absurd hi (Nat.not_lt_zero i)⟩))
        · rw [tn_si_1, if_neg (by omega), tn_si_1, if_neg (by omega)]; exact hτ.2.2.1
        · rw [tn_si_1, if_neg (by omega), tn_si_1, if_pos ⟨rfl, rfl⟩]; rfl
        · rw [tn_si_1, if_pos ⟨rfl, rfl⟩]; rfl
      rw [F_X2_parse_35]
      split
      · exact e105
      · exact e105
    refine tq_bd (s_takePart hV h hS) (fun _ σ1 hq => ?_)
    unfold tn_prl
    cases hk : tn_ppt (tn_q t len) S p with
    | inl f =>
      rw [hk] at hq
      obtain ⟨hf, p', hp'⟩ := hq
      rw [hp'.2.2.1, if_neg (tn_m1ne (by omega))]
      unfold F_X2_parse_73 F_X2_parse_74
      rw [if_pos rfl, nI_1]
      exact endBad f p' (x2 + 1) σ1 hf (by omega) hp'
    | inr a =>
      rw [hk] at hq
      obtain ⟨hp', hS'⟩ := hq
      have hi := ppt_i hV (by rw [hk] : tn_ppt (tn_q t len) S p = .inr (a.1, a.2))
      have hle := hp'.2.2.2.2.1
      rw [hp'.2.2.1, if_pos rfl, hp'.1, hp'.2.2.2.1]
      show tq _ (fun _ σ' => σ'.1 1 7 = (if a.2 < len then (if tn_q t len a.2 = 59 then tn_prl (tn_q t len) len j a.1 (a.2 + 1) else (nI a.2, tn_s0)) else (-1, a.1)).1 ∧ cSt (if a.2 < len then (if tn_q t len a.2 = 59 then tn_prl (tn_q t len) len j a.1 (a.2 + 1) else (nI a.2, tn_s0)) else (-1, a.1)).2 σ')
      by_cases c : a.2 < len
      · rw [if_neg (nI_ge c (by omega)), if_pos c]
        unfold F_X2_parse_74
        rw [if_neg (by decide)]
        refine tq_bd (s_takeSign hp' (c := 59) (by decide)) (fun _ σ2 hq2 => tq_lt ?_)
        obtain ⟨hq2, hf2⟩ := hq2
        have hS2 : cSt a.1 σ2 := cSt_same hS' (fun x y hab => hf2.i x y (by unfold tn_ms; simp; omega)) hi.2.2.1
        unfold tn_kc at hq2
        by_cases c59 : tn_q t len a.2 = 59
        · rw [if_pos c59] at hq2 ⊢
          have hq2 : cP t len (-1) (a.2 + 1) σ2 := hq2
          rw [hq2.2.2.1, if_pos rfl, nI_1]
          exact ih m (x2 + 1) a.1 (a.2 + 1) σ2 hi.2 hq2 hS2 (by omega) (by omega) (by omega)
        · rw [if_neg c59] at hq2 ⊢
          have hq2 : cP t len (nI a.2) a.2 σ2 := hq2
          rw [hq2.2.2.1, if_neg (tn_m1ne (by omega)), nI_1]
          exact endBad a.2 a.2 (x2 + 1) σ2 (by omega) (by omega) hq2
      · rw [if_pos (nI_le (by omega) (by omega)), if_neg c]
        unfold F_X2_parse_73 F_X2_parse_74
        rw [if_pos rfl, nI_1]
        obtain ⟨m2, rfl⟩ : ∃ m2, m = m2 + 1 := ⟨m - 1, by omega⟩
        have e105 : tq (F_X2_parse_105 σ1) (fun _ σ' => σ'.1 1 7 = -1 ∧ cSt a.1 σ') := by
          unfold F_X2_parse_105
          rw [hp'.2.2.1, if_pos rfl]
          exact tq_some ⟨hp'.2.2.1, hS'⟩
        show tq (F_X2_parse_35 (m2 + 1) 0 (nI (x2 + 1)) σ1) _
        rw [F_X2_parse_35]
        split
        · exact e105
        · exact e105
theorem s_parse (h1 : σ.1 1 4 = nI len) (h150 : len ≤ 150) (ht : ∀ j, j < len → σ.1 9 j = t j) : tq (f_X2_parse σ) (fun _ σ' => σ'.1 1 7 = (tn_prs t len).1 ∧ cSt (tn_prs t len).2 σ') := by
  unfold f_X2_parse
  refine tq_lt (tq_lt (tq_lt (tq_lt (tq_lt ?_))))
  generalize hτ : tn_si (tn_si (tn_si (tn_si σ 1 5 0) 1 6 0) 1 7 (-1)) 1 8 0 = τ
  have e4 : τ.1 1 4 = nI len := by rw [← hτ]; simp [tn_si_1]; exact h1
  have e5 : τ.1 1 5 = 0 := by rw [← hτ]; simp [tn_si_1]
  have e6 : τ.1 1 6 = 0 := by rw [← hτ]; simp [tn_si_1]
  have e7 : τ.1 1 7 = -1 := by rw [← hτ]; simp [tn_si_1]
  have e8 : τ.1 1 8 = 0 := by rw [← hτ]; simp [tn_si_1]
  have e9 : ∀ j, j < len → τ.1 9 j = t j := fun j hj => by rw [← hτ]; simp [tn_si_1]; exact ht j hj
  have hS : cSt tn_s0 τ := ⟨e5, e6, fun k hk => absurd hk (Nat.not_lt_zero k), fun i hi => absurd hi (Nat.not_lt_zero i)⟩
  rw [e4]
  unfold tn_prs
  by_cases c : len = 0
  · rw [if_pos c, if_pos (by rw [c]; decide)]
    show tq (F_X2_parse_35 (1999 + 1) 0 0 τ) _
    rw [F_X2_parse_35, if_neg (by decide), if_pos rfl]
    unfold F_X2_parse_105
    rw [e7, if_pos rfl]
    exact tq_some ⟨e7, hS⟩
  · rw [if_neg c, if_neg (nI_nle (by omega) (by omega))]
    exact s_parse35 152 tn_fuel 0 tn_s0 0 τ s0_V ⟨e4, h150, e7, e8, by omega, e9⟩ hS (by omega) (by omega) (by unfold tn_fuel; omega)
end PC
