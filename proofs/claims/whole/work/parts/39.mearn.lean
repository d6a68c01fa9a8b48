/-! the model's street and what it tries -/
def mSt (S : tS) (σ : tn_M) : Prop := σ.1 5 8 = nI (sn S) ∧ σ.1 5 11 = nI (sm S) ∧ (∀ k, k < sn S → σ.1 38 k = nI (sz S k) ∧ σ.1 39 k = nI (sc S k)) ∧ ∀ i, i < sm S → ∀ j, j < 6 → σ.1 40 (6 * i + j) = tn_er (sr S i) j
def mFi (e : tEc) (σ : tn_M) : Prop := (σ.1 5 18 = 0 ∧ eF e = 0) ∨ (σ.1 5 18 = 1 ∧ ∃ F N, F ≤ 999 ∧ N ≤ 16 ∧ σ.1 41 3 = nI F ∧ σ.1 41 4 = nI N ∧ eF e = lN (F * N * 738017280))
def mTr (e : tEc) (hb u : Nat → Nat) (lim : Nat) (fixed : Int32) (σ : tn_M) : Prop :=
  mSt (eS e) σ ∧ σ.1 41 0 = nI (eL e) ∧ σ.1 41 1 = nI (eC e) ∧ σ.1 41 2 = nI (eM e) ∧ (∀ k, k < 5 → σ.1 44 k = nI (u k) ∧ u k ≤ 3) ∧ (∀ h, 1 ≤ h → h ≤ 3 → σ.1 45 h = nI (hb h) ∧ hb h ≤ 8) ∧ (∀ k, k < sn (eS e) → σ.1 46 k = nI (eP e k)) ∧ (σ.1 5 19 = nI lim ∧ lim ≤ 3) ∧ σ.1 5 20 = fixed ∧ mFi e σ
section MT
variable {e : tEc} {hb u : Nat → Nat} {lim : Nat} {fixed : Int32} {σ : tn_M}
theorem mTr.st (h : mTr e hb u lim fixed σ) : mSt (eS e) σ := h.1
theorem mTr.lig (h : mTr e hb u lim fixed σ) : σ.1 41 0 = nI (eL e) := h.2.1
theorem mTr.cap (h : mTr e hb u lim fixed σ) : σ.1 41 1 = nI (eC e) := h.2.2.1
theorem mTr.sma (h : mTr e hb u lim fixed σ) : σ.1 41 2 = nI (eM e) := h.2.2.2.1
theorem mTr.un (h : mTr e hb u lim fixed σ) {k : Nat} (hk : k < 5) : σ.1 44 k = nI (u k) := (h.2.2.2.2.1 k hk).1
theorem mTr.u3 (h : mTr e hb u lim fixed σ) {k : Nat} (hk : k < 5) : u k ≤ 3 := (h.2.2.2.2.1 k hk).2
theorem mTr.ha (h : mTr e hb u lim fixed σ) {j : Nat} (h1 : 1 ≤ j) (h3 : j ≤ 3) : σ.1 45 j = nI (hb j) := (h.2.2.2.2.2.1 j h1 h3).1
theorem mTr.h8 (h : mTr e hb u lim fixed σ) {j : Nat} (h1 : 1 ≤ j) (h3 : j ≤ 3) : hb j ≤ 8 := (h.2.2.2.2.2.1 j h1 h3).2
theorem mTr.co (h : mTr e hb u lim fixed σ) {k : Nat} (hk : k < sn (eS e)) : σ.1 46 k = nI (eP e k) := h.2.2.2.2.2.2.1 k hk
theorem mTr.lm (h : mTr e hb u lim fixed σ) : σ.1 5 19 = nI lim := h.2.2.2.2.2.2.2.1.1
theorem mTr.l3 (h : mTr e hb u lim fixed σ) : lim ≤ 3 := h.2.2.2.2.2.2.2.1.2
theorem mTr.fx (h : mTr e hb u lim fixed σ) : σ.1 5 20 = fixed := h.2.2.2.2.2.2.2.2.1
theorem mTr.fi (h : mTr e hb u lim fixed σ) : mFi e σ := h.2.2.2.2.2.2.2.2.2
end MT
theorem mSt_same {S : tS} {σ σ' : tn_M} (h : mSt S σ) (e : ∀ a b, (a = 5 ∧ (b = 8 ∨ b = 11)) ∨ a = 38 ∨ a = 39 ∨ a = 40 → σ'.1 a b = σ.1 a b) : mSt S σ' := by
  obtain ⟨h1, h2, h3, h4⟩ := h
  refine ⟨by rw [e 5 8 (by omega)]; exact h1, by rw [e 5 11 (by omega)]; exact h2, fun k hk => ?_, fun i hi j hj => ?_⟩
  · rw [e 38 k (by omega), e 39 k (by omega)]; exact h3 k hk
  · rw [e 40 _ (by omega)]; exact h4 i hi j hj
theorem mTr_fr {e : tEc} {hb u : Nat → Nat} {lim : Nat} {fixed : Int32} {σ σ' : tn_M} (h : mTr e hb u lim fixed σ) {v : Nat → Nat} (hf : tn_fr [(44, 999), (47, 999), (5, 23), (5, 24), (5, 25), (48, 999)] σ σ') (h1 : ∀ k, k < 5 → σ'.1 44 k = nI (v k) ∧ v k ≤ 3) : mTr e hb v lim fixed σ' := by
  refine ⟨mSt_same h.st (fun a b hab => hf.i a b (by unfold tn_ms; simp; omega)), ?_, ?_, ?_, h1, fun j a1 a2 => ?_, fun k hk => ?_, ?_, ?_, ?_⟩
  · rw [hf.i 41 0 rfl]; exact h.lig
  · rw [hf.i 41 1 rfl]; exact h.cap
  · rw [hf.i 41 2 rfl]; exact h.sma
  · rw [hf.i 45 j rfl]; exact ⟨h.ha a1 a2, h.h8 a1 a2⟩
  · rw [hf.i 46 k rfl]; exact h.co hk
  · rw [hf.i 5 19 rfl]; exact ⟨h.lm, h.l3⟩
  · rw [hf.i 5 20 rfl]; exact h.fx
  · rcases h.fi with ⟨a, b⟩ | ⟨a, F, N, b⟩
    · left
      rw [hf.i 5 18 rfl]; exact ⟨a, b⟩
    · right
      rw [hf.i 5 18 rfl, hf.i 41 3 rfl, hf.i 41 4 rfl]; exact ⟨a, F, N, b⟩
theorem mTr_keep {e : tEc} {hb u : Nat → Nat} {lim : Nat} {fixed : Int32} {σ σ' : tn_M} (h : mTr e hb u lim fixed σ) (hf : tn_fr [(47, 999), (5, 23), (5, 24), (5, 25), (48, 999)] σ σ') : mTr e hb u lim fixed σ' :=
  mTr_fr h (hf.mono (by decide)) (fun k hk => by rw [hf.i 44 k rfl]; exact ⟨h.un hk, h.u3 hk⟩)
section ME
variable {e : tEc} {hb u : Nat → Nat} {lim : Nat} {fixed : Int32} {σ : tn_M}
theorem tn_b6 : ∀ B, B < 32 → ∀ k, k < 5 → B < 2 ^ k → B ||| 2 ^ k = B + 2 ^ k := by decide +kernel
theorem s_openIn (hV : tVe e) (hs : mTr e hb u lim fixed σ) {h : Nat} (hh : h < 2 ^ 31) : f_X5_openIn (nI h) σ = some (nI (tn_mk (sn (eS e)) u h), σ) := by
  have hn := hV.1.1
  have lp : ∀ d n k, k + d = sn (eS e) → d < n → F_X5_openIn_4 n (nI h) (nI (tn_mk k u h)) (nI k) σ = some (nI (tn_mk (sn (eS e)) u h), σ) := by
    intro d
    induction d with
    | zero =>
      intro n k h1 h2
      obtain ⟨m, rfl⟩ : ∃ m, n = m + 1 := ⟨n - 1, by omega⟩
      have : k = sn (eS e) := by omega
      subst this
      rw [F_X5_openIn_4, hs.st.1, if_pos (nI_le (Nat.le_refl _) (by omega))]
    | succ d ih =>
      intro n k h1 h2
      obtain ⟨m, rfl⟩ : ∃ m, n = m + 1 := ⟨n - 1, by omega⟩
      have hl := mk_lt u h k
      have h32 : tn_mk k u h < 32 := Nat.lt_of_lt_of_le hl (Nat.pow_le_pow_right (by omega) (by omega : k ≤ 5) : 2 ^ k ≤ 2 ^ 5)
      have hu := hs.u3 (k := k) (by omega)
      rw [F_X5_openIn_4, hs.st.1, if_neg (nI_ge (by omega) (by omega)), tn_ckn (by omega) (by decide), tn_xn (by omega), hs.un (by omega), nI_1]
      unfold tn_lt
      have ev : nI (tn_mk k u h) ||| (if nI (u k) < nI h then (0 : Int32) else 1 <<< (nI k &&& 31)) = nI (tn_mk (k + 1) u h) := by
        show _ = nI (tn_mk k u h + if h ≤ u k then 2 ^ k else 0)
        by_cases c : h ≤ u k
        · rw [if_neg (nI_nlt c (by omega)), if_pos c, tn_b3 _ h32 k (by omega), tn_b6 _ h32 k (by omega) hl]
        · rw [if_pos (nI_lt (by omega) hh), if_neg c]
          simp
      show F_X5_openIn_4 m (nI h) (nI (tn_mk k u h) ||| (if nI (u k) < nI h then (0 : Int32) else 1 <<< (nI k &&& 31))) (nI (k + 1)) σ = _
      rw [ev]
      exact ih m (k + 1) (by omega) (by omega)
  unfold f_X5_openIn
  exact lp (sn (eS e)) tn_fuel 0 (by omega) (by unfold tn_fuel; omega)
theorem s_sizesOf {S : tS} (hV : tV S) (hs : mSt S σ) {B : Nat} (hB : B < 32) : f_X5_sizesOf (nI B) σ = some (nI (ssz S B), σ) := by
  have hn := hV.1
  have lp : ∀ d n k, k + d = sn S → d < n → F_X5_sizesOf_4 n (nI B) (nI (tn_S (fun k => if B.testBit k then sz S k else 0) k)) (nI k) σ = some (nI (ssz S B), σ) := by
    intro d
    induction d with
    | zero =>
      intro n k h1 h2
      obtain ⟨m, rfl⟩ : ∃ m, n = m + 1 := ⟨n - 1, by omega⟩
      have : k = sn S := by omega
      subst this
      rw [F_X5_sizesOf_4, hs.1, if_pos (nI_le (Nat.le_refl _) (by omega))]
      rfl
    | succ d ih =>
      intro n k h1 h2
      obtain ⟨m, rfl⟩ : ∃ m, n = m + 1 := ⟨n - 1, by omega⟩
      rw [F_X5_sizesOf_4, hs.1, if_neg (nI_ge (by omega) (by omega)), tn_b1 B hB k (by omega)]
      have hi := ih m (k + 1) (by omega) (by omega)
      by_cases hb : B.testBit k = true
      · rw [if_pos (by simp [hb]), tn_ckn (by omega) (by decide), tn_xn (by omega), (hs.2.2.1 k (by omega)).1]
        unfold F_X5_sizesOf_32
        rw [nI_add, nI_1]
        simp only [tn_S, hb, if_true] at hi
        exact hi
      · rw [if_neg (by simp [hb])]
        unfold F_X5_sizesOf_32
        rw [tn_L 0, nI_add, nI_1]
        simp only [tn_S, hb, Bool.false_eq_true, if_false] at hi
        exact hi
  unfold f_X5_sizesOf
  exact lp (sn S) tn_fuel 0 (by omega) (by unfold tn_fuel; omega)
theorem s_parts {S : tS} (hV : tV S) (hs : mSt S σ) {B A w : Nat} (hB : B < 32) (hA : A < 2 ^ 63) (hw : w ≤ 99) : tq (f_X5_parts (lN A) (nI B) (nI w) σ) (fun _ σ' => (∀ k, k < sn S → σ'.2 47 k = σ.2 47 k + lN (tn_sh S B A w k)) ∧ σ'.2 5 23 = σ.2 5 23 + lN A ∧ tn_fr [(5, 23), (47, 999)] σ σ') := by
  have hn := hV.1
  have h15 := ssz_le hV B
  have lp : ∀ d n k (τ : tn_M), k + d = sn S → d < n → mSt S τ → τ.2 5 23 = σ.2 5 23 → (∀ j, j < sn S → τ.2 47 j = σ.2 47 j + (if j < k then lN (tn_sh S B A w j) else 0)) → tq (F_X5_parts_10 n (lN A) (nI B) (nI w) (nI (ssz S B)) (nI k) τ) (fun _ σ' => (∀ k, k < sn S → σ'.2 47 k = σ.2 47 k + lN (tn_sh S B A w k)) ∧ σ'.2 5 23 = σ.2 5 23 + lN A) := by
    intro d
    induction d with
    | zero =>
      intro n k τ h1 h2 ht h3 h4
      obtain ⟨m, rfl⟩ : ∃ m, n = m + 1 := ⟨n - 1, by omega⟩
      have : k = sn S := by omega
      subst this
      rw [F_X5_parts_10, ht.1, if_pos (nI_le (Nat.le_refl _) (by omega))]
      unfold F_X5_parts_67
      refine tq_lt (tq_some ⟨fun j hj => ?_, ?_⟩)
      · rw [tn_sl_2, if_neg (by omega), h4 j hj, if_pos hj]
      · rw [tn_sl_2, if_pos ⟨rfl, rfl⟩, h3]
    | succ d ih =>
      intro n k τ h1 h2 ht h3 h4
      obtain ⟨m, rfl⟩ : ∃ m, n = m + 1 := ⟨n - 1, by omega⟩
      have hz := hV.2.2.1 k (by omega)
      rw [F_X5_parts_10, ht.1, if_neg (nI_ge (by omega) (by omega)), tn_ckn (by omega) (by decide), tn_b1 B hB k (by omega)]
      have go : ∀ y : Int64, y = lN (tn_sh S B A w k) → tq (F_X5_parts_59 (fun z0 z1 z2 z3 z4 zs => F_X5_parts_10 m z0 z1 z2 z3 z4 zs) (lN A) (nI B) (nI w) (nI (ssz S B)) (nI k) (nI k) (τ.2 47 (tn_x (nI k))) y τ) (fun _ σ' => (∀ k, k < sn S → σ'.2 47 k = σ.2 47 k + lN (tn_sh S B A w k)) ∧ σ'.2 5 23 = σ.2 5 23 + lN A) := by
        intro y hy
        unfold F_X5_parts_59
        rw [tn_ckn (by omega) (by decide), tn_xn (by omega), nI_1]
        refine tq_lt (ih m (k + 1) _ (by omega) (by omega) (mSt_same ht (fun a b _ => by rw [tn_sl_1])) ?_ (fun j hj => ?_))
        · rw [tn_sl_2, if_neg (by omega)]; exact h3
        · rw [tn_sl_2]
          by_cases c : j = k
          · subst c
            rw [if_pos ⟨rfl, rfl⟩, h4 j hj, if_neg (by omega), if_pos (by omega), hy, Int64.add_zero]
          · rw [if_neg (fun q => c q.2), h4 j hj]
            have : (j < k + 1) ↔ (j < k) := by omega
            simp only [this]
      by_cases hb : B.testBit k = true
      · have h0 := ssz_bit hV (by omega : k < sn S) hb
        rw [if_pos (by simp [hb])]
        unfold tn_dzl
        rw [if_neg (by rw [tn_l (by omega), show (0 : Int64) = lN 0 from rfl, lN_eq (by omega) (by omega)]; omega), tn_ckn (by omega) (by decide)]
        refine go _ ?_
        rw [tn_xn (by omega), (ht.2.2.1 k (by omega)).1, tn_l (by omega), tn_l (by omega), tn_l (by omega), pk_lDiv hA (by omega) (by omega), lN_mul, lN_mul]
        unfold tn_sh
        rw [if_pos hb]
      · rw [if_neg (by simp [hb])]
        refine go _ ?_
        unfold tn_sh
        rw [if_neg hb]
        rfl
  have key : tq (f_X5_parts (lN A) (nI B) (nI w) σ) (fun _ σ' => (∀ k, k < sn S → σ'.2 47 k = σ.2 47 k + lN (tn_sh S B A w k)) ∧ σ'.2 5 23 = σ.2 5 23 + lN A) := by
    unfold f_X5_parts
    rw [s_sizesOf hV hs hB, tn_bds]
    exact lp (sn S) tn_fuel 0 σ (by omega) (by unfold tn_fuel; omega) hs rfl (fun j hj => by rw [if_neg (by omega), Int64.add_zero])
  exact tq_mono (tq_fr (fr_X5_parts _ _ _ _) key) (fun _ σ' h => ⟨h.1.1, h.1.2, h.2⟩)
theorem tn_on : ∀ B, B < 32 → (F_X5_ones_4 6 0 (nI B) (fun _ _ => 0, fun _ _ => 0)).map (fun q => q.1) = some (nI (tn_pop B)) := by decide +kernel
theorem ones_more : ∀ (n d : Nat) (x y : Int32) (σ : tn_M) (r : Int32), (F_X5_ones_4 n x y (fun _ _ => 0, fun _ _ => 0)).map (fun q => q.1) = some r → F_X5_ones_4 (n + d) x y σ = some (r, σ) := by
  intro n
  induction n with
  | zero => intro d x y σ r h; cases h
  | succ n ih =>
    intro d x y σ r h
    rw [show n + 1 + d = (n + d) + 1 by omega, F_X5_ones_4]
    rw [F_X5_ones_4] at h
    by_cases c : y = 0
    · rw [if_pos c] at h ⊢
      simp only [Option.map_some, Option.some.injEq] at h
      rw [h]
    · rw [if_neg c] at h ⊢
      exact ih d _ _ σ r h
theorem s_ones {B : Nat} (hB : B < 32) (σ : tn_M) : f_X5_ones (nI B) σ = some (nI (tn_pop B), σ) := ones_more 6 1994 0 (nI B) σ _ (tn_on B hB)
end ME
