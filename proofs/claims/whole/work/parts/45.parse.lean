/-! reading the text: q is the text with -1 behind its end -/
def tn_q (t : Nat → Int32) (len : Nat) : Nat → Int32 := fun p => if p < len then t p else -1
def tn_dg (c : Int32) : Bool := decide (48 ≤ c.toInt ∧ c.toInt ≤ 57)
def tn_dv (c : Int32) : Nat := (c.toInt - 48).toNat
def tn_sb {α β : Type} (o : Nat ⊕ (α × Nat)) (k : α → Nat → Nat ⊕ β) : Nat ⊕ β := match o with
  | .inl f => .inl f
  | .inr a => k a.1 a.2
/-- a sign; a figure; one or two figures; what they like -/
def tn_kc (q : Nat → Int32) (c : Int32) (p : Nat) : Nat ⊕ (Unit × Nat) := if q p = c then .inr ((), p + 1) else .inl p
def tn_rg (lo hi v p p' : Nat) : Nat ⊕ (Nat × Nat) := if lo ≤ v ∧ v < hi then .inr (v, p') else .inl p
def tn_k1 (q : Nat → Int32) (lo hi p : Nat) : Nat ⊕ (Nat × Nat) := if tn_dg (q p) then tn_rg lo hi (tn_dv (q p)) p (p + 1) else .inl p
def tn_k2 (q : Nat → Int32) (lo hi p : Nat) : Nat ⊕ (Nat × Nat) := if tn_dg (q p) then (if tn_dg (q (p + 1)) then tn_rg lo hi (10 * tn_dv (q p) + tn_dv (q (p + 1))) p (p + 2) else tn_rg lo hi (tn_dv (q p)) p (p + 1)) else .inl p
def tn_kl (q : Nat → Int32) (n p : Nat) : Nat ⊕ (Option Nat × Nat) := if q p = 45 then .inr (none, p + 1) else tn_sb (tn_k1 q 0 n p) (fun v p' => .inr (some v, p'))
theorem dg_v {c : Int32} (h : tn_dg c = true) : c = nI (48 + tn_dv c) ∧ tn_dv c ≤ 9 := by
  unfold tn_dg at h
  have h := of_decide_eq_true h
  unfold tn_dv
  refine ⟨?_, by omega⟩
  rw [tn_eq32, tn_t (by omega)]
  omega
theorem q_lt {t : Nat → Int32} {len p : Nat} {c : Int32} (h : tn_q t len p = c) (hc : c ≠ -1) : p < len := by
  apply Decidable.byContradiction
  intro q
  unfold tn_q at h
  rw [if_neg q] at h
  exact hc h.symm
theorem dg_lt {t : Nat → Int32} {len p : Nat} (h : tn_dg (tn_q t len p) = true) : p < len := by
  refine q_lt (t := t) (c := tn_q t len p) rfl (fun e => ?_)
  rw [e] at h
  revert h
  decide
/-! the class's place in the text -/
def cP (t : Nat → Int32) (len : Nat) (w : Int32) (p : Nat) (σ : tn_M) : Prop := σ.1 1 4 = nI len ∧ len ≤ 150 ∧ σ.1 1 7 = w ∧ σ.1 1 8 = nI p ∧ p ≤ len ∧ ∀ j, j < len → σ.1 9 j = t j
def tn_w (w : Int32) (p : Nat) : Int32 := if w = -1 then nI p else w
section PA
variable {t : Nat → Int32} {len p : Nat} {w : Int32} {σ : tn_M}
theorem cP.fr {σ' : tn_M} {w' : Int32} {p' : Nat} (h : cP t len w p σ) (hf : tn_fr [(1, 7), (1, 8)] σ σ') (h1 : σ'.1 1 7 = w') (h2 : σ'.1 1 8 = nI p') (h3 : p' ≤ len) : cP t len w' p' σ' := by
  obtain ⟨a, b, c, d, e, f⟩ := h
  exact ⟨by rw [hf.i 1 4 rfl]; exact a, b, h1, h2, h3, fun j hj => by rw [hf.i 9 j rfl]; exact f j hj⟩
theorem s_next (h : cP t len w p σ) : f_X2_next σ = some (tn_q t len p, σ) := by
  obtain ⟨h1, h2, h3, h4, h5, h6⟩ := h
  unfold f_X2_next tn_q
  rw [h4, h1, if_neg (nI_pos (by omega))]
  by_cases c : p < len
  · rw [if_neg (nI_ge c (by omega)), tn_ckn (by omega) (by decide), tn_xn (by omega), h6 p c, if_pos c]
  · rw [if_pos (nI_le (by omega) (by omega)), if_neg c]
theorem s_fail (h : cP t len w p σ) (a : Nat) : tq (f_X2_fail (nI a) σ) (fun _ σ' => cP t len (tn_w w a) p σ' ∧ tn_fr [(1, 7)] σ σ') := by
  have key : tq (f_X2_fail (nI a) σ) (fun _ σ' => cP t len (tn_w w a) p σ') := by
    unfold f_X2_fail tn_w
    rw [h.2.2.1]
    by_cases c : w = -1
    · rw [if_pos c, if_pos c]
      exact tq_lt (tq_some (h.fr (tn_fr.si (by rfl) tn_fr.rf) (by rw [tn_si_1, if_pos ⟨rfl, rfl⟩]) (by rw [tn_si_1, if_neg (by omega)]; exact h.2.2.2.1) h.2.2.2.2.1))
    · rw [if_neg c, if_neg c]
      exact tq_some h
  exact tq_fr (fr_X2_fail _ _) key
theorem at_up (h : cP t len w p σ) (hp : p < len) : cP t len w (p + 1) (tn_si σ 1 8 (σ.1 1 8 + 1)) := by
  refine h.fr (tn_fr.si (by rfl) tn_fr.rf) (by rw [tn_si_1, if_neg (by omega)]; exact h.2.2.1) ?_ (by omega)
  rw [tn_si_1, if_pos ⟨rfl, rfl⟩, h.2.2.2.1, nI_1]
theorem s_takeSign (h : cP t len w p σ) {c : Int32} (hc : c ≠ -1) : tq (f_X2_takeSign c σ) (fun _ σ' => (match tn_kc (tn_q t len) c p with
    | .inl f => cP t len (tn_w w f) p σ'
    | .inr a => cP t len w a.2 σ') ∧ tn_fr [(1, 7), (1, 8)] σ σ') := by
  refine tq_fr (fr_X2_takeSign _ _) ?_
  unfold f_X2_takeSign tn_kc
  rw [s_next h, tn_bds]
  by_cases e : tn_q t len p = c
  · rw [if_pos e, if_pos e]
    exact tq_lt (tq_some (at_up h (q_lt e hc)))
  · rw [if_neg e, if_neg e, h.2.2.2.1]
    exact tq_bd (s_fail h p) (fun _ σ' hq => tq_some hq.1)
theorem s_takeFigure (h : cP t len w p σ) : tq (f_X2_takeFigure σ) (fun r σ' => (match tn_k1 (tn_q t len) 1 4 p with
    | .inl f => cP t len (tn_w w f) p σ'
    | .inr a => r = nI a.1 ∧ cP t len w a.2 σ') ∧ tn_fr [(1, 7), (1, 8)] σ σ') := by
  refine tq_fr (fr_X2_takeFigure _) ?_
  unfold f_X2_takeFigure tn_k1
  rw [s_next h, tn_bds]
  have bad : tq (F_X2_takeFigure_18 σ) (fun _ σ' => cP t len (tn_w w p) p σ') := by
    unfold F_X2_takeFigure_18
    rw [h.2.2.2.1]
    exact tq_bd (s_fail h p) (fun _ σ' hq => tq_some hq.1)
  have hx : (tn_q t len p - 48 < 1 ∨ ¬ tn_q t len p - 48 ≤ 3) ∨ (∃ v, 1 ≤ v ∧ v ≤ 3 ∧ tn_q t len p - 48 = nI v) := by
    rcases pk_ix (tn_q t len p - 48) (n := 4) (by decide) with a | a | ⟨j, a, b⟩
    · left; left
      exact Int32.lt_of_lt_of_le a (by decide)
    · left; right
      intro q
      have := Int32.le_trans a q
      revert this
      decide
    · by_cases c : j = 0
      · left; left
        rw [b, c]; decide
      · right
        exact ⟨j, by omega, by omega, b⟩
  have back : ∀ v, v ≤ 9 → tn_q t len p - 48 = nI v → tn_dg (tn_q t len p) = true ∧ tn_dv (tn_q t len p) = v := by
    intro v hv e
    have e2 : tn_q t len p = nI (48 + v) := by
      have : tn_q t len p = (tn_q t len p - 48) + 48 := by rw [Int32.sub_add_cancel]
      rw [this, e, tn_L 48, nI_add, Nat.add_comm]
    unfold tn_dg tn_dv
    rw [e2, tn_t (by omega)]
    exact ⟨decide_eq_true (by omega), by omega⟩
  rcases hx with hx | ⟨v, v1, v3, ev⟩
  · have e1 : (if tn_dg (tn_q t len p) = true then tn_rg 1 4 (tn_dv (tn_q t len p)) p (p + 1) else Sum.inl p) = Sum.inl p := by
      by_cases d : tn_dg (tn_q t len p) = true
      · rw [if_pos d]
        unfold tn_rg
        rw [if_neg]
        rintro ⟨a, b⟩
        obtain ⟨d1, d2⟩ := dg_v d
        have e2 : tn_q t len p - 48 = nI (tn_dv (tn_q t len p)) := by
          rw [show tn_q t len p - 48 = nI (48 + tn_dv (tn_q t len p)) - 48 by rw [← d1], tn_L 48, pk_sub (by omega)]
          congr 1
          omega
        rw [e2] at hx
        rcases hx with hx | hx
        · rw [tn_L 1, nI_ltI (by omega) (by omega)] at hx
          omega
        · rw [tn_L 3, nI_leI (by omega) (by omega)] at hx
          omega
      · rw [if_neg d]
    rw [e1]
    rcases hx with hx | hx
    · rw [if_pos hx]
      exact tq_mono bad (fun _ _ h => h)
    · by_cases c : tn_q t len p - 48 < 1
      · rw [if_pos c]
        exact tq_mono bad (fun _ _ h => h)
      · rw [if_neg c, if_neg hx]
        exact tq_mono bad (fun _ _ h => h)
  · obtain ⟨d1, d2⟩ := back v (by omega) ev
    rw [ev, tn_L 1, if_neg (nI_nlt v1 (by omega)), tn_L 3, if_pos (nI_le v3 (by omega)), if_pos d1]
    unfold tn_rg
    rw [d2, if_pos (by omega)]
    exact tq_lt (tq_some ⟨rfl, at_up h (dg_lt d1)⟩)
end PA
