/-! earning: street, light, cap, small, fine, costs -/
abbrev tEc : Type := tS × Nat × Nat × Nat × Int64 × (Nat → Nat)
abbrev eS (e : tEc) : tS := e.1
abbrev eL (e : tEc) : Nat := e.2.1
abbrev eC (e : tEc) : Nat := e.2.2.1
abbrev eM (e : tEc) : Nat := e.2.2.2.1
abbrev eF (e : tEc) : Int64 := e.2.2.2.2.1
abbrev eP (e : tEc) : Nat → Nat := e.2.2.2.2.2
def tVe (e : tEc) : Prop := tV (eS e) ∧ eL e ≤ 16 ∧ eC e ≤ 3 ∧ eM e ≤ 3 ∧ ∀ k, k < sn (eS e) → eP e k ≤ 99
def tn_bu (e : tEc) (k v : Nat) : Int64 := lN (eP e k * v * 11808276480) + (if eC e < v ∧ eM e < sz (eS e) k then eF e else 0)
def tn_ea (e : tEc) (hb u : Nat → Nat) (k : Nat) : Int64 := lN (tn_inc (eS e) (eL e) hb u k) - tn_bu e k (u k)
/-- the scene's cells -/
def cSc (e : tEc) (hb u lim : Nat → Nat) (held : Int32) (σ : tn_M) : Prop :=
  cSt (eS e) σ ∧ cTb (eS e) (eL e) σ ∧ (∀ k, k < 5 → σ.1 20 k = nI (u k) ∧ u k ≤ 3) ∧ (∀ h, 1 ≤ h → h ≤ 3 → σ.1 24 h = nI (tn_mk (sn (eS e)) u h)) ∧ (∀ h, 1 ≤ h → h ≤ 3 → σ.1 22 h = nI (hb h) ∧ hb h ≤ 8) ∧ (∀ k, k < sn (eS e) → σ.1 21 k = nI (lim k) ∧ lim k ≤ 3) ∧ σ.1 3 8 = nI (eC e) ∧ σ.1 3 9 = nI (eM e) ∧ σ.2 3 10 = eF e ∧ σ.1 3 11 = held ∧ ∀ k, eP e k = sc (eS e) k
section SC
variable {e : tEc} {hb u lim : Nat → Nat} {held : Int32} {σ : tn_M}
theorem cSc.st (h : cSc e hb u lim held σ) : cSt (eS e) σ := h.1
theorem cSc.tb (h : cSc e hb u lim held σ) : cTb (eS e) (eL e) σ := h.2.1
theorem cSc.un (h : cSc e hb u lim held σ) {k : Nat} (hk : k < 5) : σ.1 20 k = nI (u k) := (h.2.2.1 k hk).1
theorem cSc.u3 (h : cSc e hb u lim held σ) {k : Nat} (hk : k < 5) : u k ≤ 3 := (h.2.2.1 k hk).2
theorem cSc.li (h : cSc e hb u lim held σ) {j : Nat} (h1 : 1 ≤ j) (h3 : j ≤ 3) : σ.1 24 j = nI (tn_mk (sn (eS e)) u j) := h.2.2.2.1 j h1 h3
theorem cSc.ha (h : cSc e hb u lim held σ) {j : Nat} (h1 : 1 ≤ j) (h3 : j ≤ 3) : σ.1 22 j = nI (hb j) := (h.2.2.2.2.1 j h1 h3).1
theorem cSc.h8 (h : cSc e hb u lim held σ) {j : Nat} (h1 : 1 ≤ j) (h3 : j ≤ 3) : hb j ≤ 8 := (h.2.2.2.2.1 j h1 h3).2
theorem cSc.lm (h : cSc e hb u lim held σ) {k : Nat} (hk : k < sn (eS e)) : σ.1 21 k = nI (lim k) := (h.2.2.2.2.2.1 k hk).1
theorem cSc.l3 (h : cSc e hb u lim held σ) {k : Nat} (hk : k < sn (eS e)) : lim k ≤ 3 := (h.2.2.2.2.2.1 k hk).2
theorem cSc.cap (h : cSc e hb u lim held σ) : σ.1 3 8 = nI (eC e) := h.2.2.2.2.2.2.1
theorem cSc.sma (h : cSc e hb u lim held σ) : σ.1 3 9 = nI (eM e) := h.2.2.2.2.2.2.2.1
theorem cSc.fin (h : cSc e hb u lim held σ) : σ.2 3 10 = eF e := h.2.2.2.2.2.2.2.2.1
theorem cSc.hel (h : cSc e hb u lim held σ) : σ.1 3 11 = held := h.2.2.2.2.2.2.2.2.2.1
theorem cSc.pr (h : cSc e hb u lim held σ) (k : Nat) : eP e k = sc (eS e) k := h.2.2.2.2.2.2.2.2.2.2 k
end SC
/-! bits of five shops -/
theorem tn_b3 : ∀ B, B < 32 → ∀ k, k < 5 → nI B ||| ((1 : Int32) <<< (nI k &&& 31)) = nI (B ||| 2 ^ k) := by decide +kernel
theorem tn_b4 : ∀ B, B < 32 → ∀ k, k < 5 → nI B &&& (((1 : Int32) <<< (nI k &&& 31)) ^^^ (-1)) = nI (B &&& (31 ^^^ 2 ^ k)) := by decide +kernel
theorem tn_b5 : ∀ B, B < 32 → ∀ k, k < 5 → ∀ j, j < 5 → (B ||| 2 ^ k).testBit j = (B.testBit j || decide (j = k)) ∧ (B &&& (31 ^^^ 2 ^ k)).testBit j = (B.testBit j && !decide (j = k)) := by decide +kernel
theorem mk_set {n : Nat} (hn : n ≤ 5) (u : Nat → Nat) {k v h : Nat} (hk : k < n) (hv : h ≤ v) : tn_mk n u h ||| 2 ^ k = tn_mk n (va_up u k v) h := by
  have hl := mk_lt u h n
  have h32 : tn_mk n u h < 32 := Nat.lt_of_lt_of_le hl (Nat.pow_le_pow_right (by omega) hn : 2 ^ n ≤ 2 ^ 5)
  refine mk_ext (Nat.or_lt_two_pow hl (Nat.pow_lt_pow_right (by omega) hk)) (fun j hj => ?_)
  rw [(tn_b5 _ h32 k (by omega) j (by omega)).1, mk_bit]
  unfold va_up
  by_cases e : j = k
  · simp [e, hv]
  · simp [e, hj]
theorem mk_clr {n : Nat} (hn : n ≤ 5) (u : Nat → Nat) {k v h : Nat} (hk : k < n) (hv : ¬ h ≤ v) : tn_mk n u h &&& (31 ^^^ 2 ^ k) = tn_mk n (va_up u k v) h := by
  have hl := mk_lt u h n
  have h32 : tn_mk n u h < 32 := Nat.lt_of_lt_of_le hl (Nat.pow_le_pow_right (by omega) hn : 2 ^ n ≤ 2 ^ 5)
  refine mk_ext (Nat.lt_of_le_of_lt Nat.and_le_left hl) (fun j hj => ?_)
  rw [(tn_b5 _ h32 k (by omega) j (by omega)).2, mk_bit]
  unfold va_up
  by_cases e : j = k
  · simp [e, hv]
  · simp [e, hj]
/-! become -/
theorem s_become0 {k v : Nat} (hk : k < 5) (hv : v ≤ 3) {B : Nat → Nat} (hB : ∀ h, 1 ≤ h → h ≤ 3 → B h < 32) {σ : tn_M} (hl : ∀ h, 1 ≤ h → h ≤ 3 → σ.1 24 h = nI (B h)) : tq (f_X0_become (nI k) (nI v) σ) (fun _ σ' => (∀ j, σ'.1 20 j = if j = k then nI v else σ.1 20 j) ∧ (∀ h, 1 ≤ h → h ≤ 3 → σ'.1 24 h = nI (if h ≤ v then B h ||| 2 ^ k else B h &&& (31 ^^^ 2 ^ k))) ∧ tn_fr [(20, 999), (24, 999)] σ σ') := by
  have key : tq (f_X0_become (nI k) (nI v) σ) (fun _ σ' => (∀ j, σ'.1 20 j = if j = k then nI v else σ.1 20 j) ∧ (∀ h, 1 ≤ h → h ≤ 3 → σ'.1 24 h = nI (if h ≤ v then B h ||| 2 ^ k else B h &&& (31 ^^^ 2 ^ k)))) := by
    unfold f_X0_become
    rw [tn_ckn (by omega) (by decide), tn_xn (by omega)]
    refine tq_lt ?_
    have lp : ∀ d n i (τ : tn_M), i + d = 4 → d < n → 1 ≤ i → (∀ j, τ.1 20 j = if j = k then nI v else σ.1 20 j) → (∀ h, 1 ≤ h → h ≤ 3 → τ.1 24 h = if h < i then nI (if h ≤ v then B h ||| 2 ^ k else B h &&& (31 ^^^ 2 ^ k)) else nI (B h)) → tq (F_X0_become_9 n (nI k) (nI v) (nI i) τ) (fun _ σ' => (∀ j, σ'.1 20 j = if j = k then nI v else σ.1 20 j) ∧ (∀ h, 1 ≤ h → h ≤ 3 → σ'.1 24 h = nI (if h ≤ v then B h ||| 2 ^ k else B h &&& (31 ^^^ 2 ^ k)))) := by
      intro d
      induction d with
      | zero =>
        intro n i τ h1 h2 h3 h4 h5
        obtain ⟨m, rfl⟩ : ∃ m, n = m + 1 := ⟨n - 1, by omega⟩
        have : i = 4 := by omega
        subst this
        rw [F_X0_become_9, if_pos (by decide)]
        refine tq_some ⟨h4, fun h a1 a2 => ?_⟩
        rw [h5 h a1 a2, if_pos (by omega)]
      | succ d ih =>
        intro n i τ h1 h2 h3 h4 h5
        obtain ⟨m, rfl⟩ : ∃ m, n = m + 1 := ⟨n - 1, by omega⟩
        have e24 : τ.1 24 i = nI (B i) := by rw [h5 i h3 (by omega), if_neg (by omega)]
        have hBi := hB i h3 (by omega)
        rw [F_X0_become_9, tn_L 3, if_neg (nI_nlt (by omega) (by omega))]
        by_cases c : v < i
        · rw [if_pos (nI_lt c (by omega)), tn_ckn (by omega) (by decide), tn_ckn (by omega) (by decide), tn_xn (by omega), e24, tn_b4 _ hBi k hk, nI_1]
          refine tq_lt (ih m (i + 1) _ (by omega) (by omega) (by omega) (fun j => ?_) (fun h a1 a2 => ?_))
          · rw [tn_si_1, if_neg (by omega)]; exact h4 j
          · rw [tn_si_1]
            by_cases eh : h = i
            · subst eh
              rw [if_pos ⟨rfl, rfl⟩, if_pos (by omega), if_neg (by omega)]
            · rw [if_neg (fun q => eh q.2), h5 h a1 a2]
              have : (h < i + 1) ↔ (h < i) := by omega
              simp only [this]
        · rw [if_neg (nI_nlt (by omega) (by omega)), tn_ckn (by omega) (by decide), tn_ckn (by omega) (by decide), tn_xn (by omega), e24, tn_b3 _ hBi k hk, nI_1]
          refine tq_lt (ih m (i + 1) _ (by omega) (by omega) (by omega) (fun j => ?_) (fun h a1 a2 => ?_))
          · rw [tn_si_1, if_neg (by omega)]; exact h4 j
          · rw [tn_si_1]
            by_cases eh : h = i
            · subst eh
              rw [if_pos ⟨rfl, rfl⟩, if_pos (by omega), if_pos (by omega)]
            · rw [if_neg (fun q => eh q.2), h5 h a1 a2]
              have : (h < i + 1) ↔ (h < i) := by omega
              simp only [this]
    refine lp 3 tn_fuel 1 _ (by omega) (by unfold tn_fuel; omega) (by omega) (fun j => ?_) (fun h a1 a2 => ?_)
    · rw [tn_si_1]
      simp
    · rw [tn_si_1, if_neg (by omega), hl h a1 a2, if_neg (by omega)]
  exact tq_mono (tq_fr (fr_X0_become _ _ _) key) (fun _ σ' h => ⟨h.1.1, h.1.2, h.2⟩)
/-- what stands in the scene beside hours and lights -/
theorem cSc_fr {e : tEc} {hb u lim : Nat → Nat} {held : Int32} {σ σ' : tn_M} (hV : tVe e) (h : cSc e hb u lim held σ) {v : Nat → Nat} (hf : tn_fr [(20, 999), (24, 999), (25, 999), (3, 12)] σ σ') (h1 : ∀ k, k < 5 → σ'.1 20 k = nI (v k) ∧ v k ≤ 3) (h2 : ∀ j, 1 ≤ j → j ≤ 3 → σ'.1 24 j = nI (tn_mk (sn (eS e)) v j)) : cSc e hb v lim held σ' := by
  refine ⟨cSt_same h.st (fun a b hab => hf.i a b (by unfold tn_ms; simp; omega)) hV.1.2.1, fun x B c a1 a2 a3 a4 => ?_, h1, h2, fun j a1 a2 => ?_, fun k hk => ?_, ?_, ?_, ?_, ?_, h.pr⟩
  · rw [hf.l 19 _ rfl]; exact h.tb x B c a1 a2 a3 a4
  · rw [hf.i 22 j rfl]; exact ⟨h.ha a1 a2, h.h8 a1 a2⟩
  · rw [hf.i 21 k rfl]; exact ⟨h.lm hk, h.l3 hk⟩
  · rw [hf.i 3 8 rfl]; exact h.cap
  · rw [hf.i 3 9 rfl]; exact h.sma
  · rw [hf.l 3 10 rfl]; exact h.fin
  · rw [hf.i 3 11 rfl]; exact h.hel
theorem cSc_keep {e : tEc} {hb u lim : Nat → Nat} {held : Int32} {σ σ' : tn_M} (hV : tVe e) (h : cSc e hb u lim held σ) (hf : tn_fr [(25, 999), (3, 12)] σ σ') : cSc e hb u lim held σ' := by
  refine cSc_fr hV h (hf.mono (by decide)) (fun k hk => ?_) (fun j a1 a2 => ?_)
  · rw [hf.i 20 k rfl]; exact ⟨h.un hk, h.u3 hk⟩
  · rw [hf.i 24 j rfl]; exact h.li a1 a2
theorem s_become {e : tEc} {hb u lim : Nat → Nat} {held : Int32} {σ : tn_M} (hV : tVe e) (h : cSc e hb u lim held σ) {k v : Nat} (hk : k < sn (eS e)) (hv : v ≤ 3) : tq (f_X0_become (nI k) (nI v) σ) (fun _ σ' => cSc e hb (va_up u k v) lim held σ' ∧ tn_fr [(20, 999), (24, 999)] σ σ') := by
  have hn := hV.1.1
  have hB : ∀ j, 1 ≤ j → j ≤ 3 → tn_mk (sn (eS e)) u j < 32 := fun j _ _ => Nat.lt_of_lt_of_le (mk_lt u j _) (Nat.pow_le_pow_right (by omega) hn : 2 ^ sn (eS e) ≤ 2 ^ 5)
  refine tq_mono (s_become0 (by omega) hv hB (fun j a1 a2 => h.li a1 a2)) (fun _ σ' hq => ⟨?_, hq.2.2⟩)
  obtain ⟨q1, q2, q3⟩ := hq
  refine cSc_fr hV h (q3.mono (by decide)) (fun j hj => ?_) (fun j a1 a2 => ?_)
  · rw [q1 j]
    unfold va_up
    by_cases c : j = k
    · simp [c, hv]
    · simp only [c, if_false]
      exact ⟨h.un hj, h.u3 hj⟩
  · rw [q2 j a1 a2]
    by_cases c : j ≤ v
    · rw [if_pos c, mk_set hn u hk c]
    · rw [if_neg c, mk_clr hn u hk c]
