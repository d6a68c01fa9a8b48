/-! pure runs that end -/
def tq {ρ : Type} (res : Option (ρ × tn_M)) (Q : ρ → tn_M → Prop) : Prop := ∃ r σ', res = some (r, σ') ∧ Q r σ'
section TQ
variable {ρ ρ1 : Type} {res X Y : Option (ρ × tn_M)} {Q : ρ → tn_M → Prop} {σ : tn_M}
theorem tq_some {r : ρ} (h : Q r σ) : tq (some (r, σ)) Q := ⟨r, σ, rfl, h⟩
theorem tq_lt {α : Type} {v : α} {k : α → Option (ρ × tn_M)} (h : tq (k v) Q) : tq (tn_lt v k) Q := h
theorem tq_bd {o : Option (ρ1 × tn_M)} {k : ρ1 → tn_M → Option (ρ × tn_M)} {P : ρ1 → tn_M → Prop} (h : tq o P) (h2 : ∀ r σ, P r σ → tq (k r σ) Q) : tq (tn_bd o k) Q := by
  obtain ⟨r, σ', e, q⟩ := h
  rw [e]
  exact h2 r σ' q
theorem tq_ck {i : Int32} {n : Nat} (h : ¬ (i < 0 ∨ n ≤ i.toNatClampNeg)) (k : tq res Q) : tq (tn_ck i n res) Q := by
  unfold tn_ck
  rw [if_neg h]
  exact k
theorem tn_ckn {α : Type} {j n : Nat} {r : Option α} (h : j < n) (hn : n < 2 ^ 31) : tn_ck (nI j) n r = r := by
  unfold tn_ck
  rw [if_neg (nI_in h hn)]
theorem tn_xn {j : Nat} (h : j < 2 ^ 31) : tn_x (nI j) = j := nI_clamp h
theorem tq_mono {Q' : ρ → tn_M → Prop} (h : tq res Q) (hq : ∀ r σ, Q r σ → Q' r σ) : tq res Q' := by
  obtain ⟨r, σ', e, q⟩ := h
  exact ⟨r, σ', e, hq _ _ q⟩
theorem tq_fr {S : List (Nat × Nat)} (hf : tf S σ res) (h : tq res Q) : tq res (fun r σ' => Q r σ' ∧ tn_fr S σ σ') := by
  obtain ⟨r, σ', e, q⟩ := h
  exact ⟨r, σ', e, q, hf r σ' e⟩
theorem tq_ite {c : Prop} [Decidable c] (h1 : c → tq X Q) (h2 : ¬ c → tq Y Q) : tq (if c then X else Y) Q := by
  split
  · next h => exact h1 h
  · next h => exact h2 h
theorem tq_pos {c : Prop} [Decidable c] (hc : c) (h1 : tq X Q) : tq (if c then X else Y) Q := by rw [if_pos hc]; exact h1
theorem tq_neg {c : Prop} [Decidable c] (hc : ¬ c) (h1 : tq Y Q) : tq (if c then X else Y) Q := by rw [if_neg hc]; exact h1
theorem tn_bds {r : ρ1} {k : ρ1 → tn_M → Option (ρ × tn_M)} : tn_bd (some (r, σ)) k = k r σ := rfl
end TQ
theorem tn_fr.i {S : List (Nat × Nat)} {σ σ' : tn_M} (h : tn_fr S σ σ') (a b : Nat) (q : tn_ms S a b = false) : σ'.1 a b = σ.1 a b := (h a b q).1
theorem tn_fr.l {S : List (Nat × Nat)} {σ σ' : tn_M} (h : tn_fr S σ σ') (a b : Nat) (q : tn_ms S a b = false) : σ'.2 a b = σ.2 a b := (h a b q).2
/-! numbers -/
theorem tn_t {j : Nat} (h : j < 2 ^ 31) : (nI j).toInt = (j : Int) := nI_toInt h
theorem tn_t64 (x : Int32) : (Int32.toInt64 x).toInt = x.toInt := Int32.toInt_toInt64 x
theorem tn_lt32 (x y : Int32) : x < y ↔ x.toInt < y.toInt := Int32.lt_iff_toInt_lt
theorem tn_le32 (x y : Int32) : x ≤ y ↔ x.toInt ≤ y.toInt := Int32.le_iff_toInt_le
theorem tn_lt64 (x y : Int64) : x < y ↔ x.toInt < y.toInt := Int64.lt_iff_toInt_lt
theorem tn_le64 (x y : Int64) : x ≤ y ↔ x.toInt ≤ y.toInt := Int64.le_iff_toInt_le
theorem tn_eq32 (x y : Int32) : x = y ↔ x.toInt = y.toInt := Int32.toInt_inj.symm
theorem tn_L (n : Nat) : (OfNat.ofNat n : Int32) = nI n := rfl
/-- an int in a range is a natural number -/
theorem tn_nat {x : Int32} {n : Nat} (h0 : 0 ≤ x.toInt) (h : x.toInt < n) : ∃ j, j < n ∧ x = nI j := by
  refine ⟨x.toInt.toNat, by omega, ?_⟩
  have h1 := Int32.toInt_lt x
  rw [tn_eq32, tn_t (by omega)]
  omega
theorem tn_sub1 {n : Nat} (h : n < 2 ^ 30) : (nI n - 1).toInt = (n : Int) - 1 := by
  have : (1 : Int32) = nI 1 := rfl
  rw [this, pk_sub_toInt (by omega) (by omega)]
  rfl
theorem tn_m1ne {j : Nat} (h : j < 2 ^ 31) : ¬ nI j = -1 := by
  rw [tn_eq32, tn_t h]
  have : (-1 : Int32).toInt = -1 := rfl
  omega
theorem tn_in5 (a lo hi : Int64) (σ : tn_M) : f_X5_in a lo hi σ = some (if lo.toInt ≤ a.toInt ∧ a.toInt ≤ hi.toInt then 1 else 0, σ) := by
  unfold f_X5_in
  by_cases h1 : a < lo
  · have := (tn_lt64 _ _).mp h1
    rw [if_pos h1, if_neg (by omega)]
  · have h1' : ¬ a.toInt < lo.toInt := fun q => h1 ((tn_lt64 _ _).mpr q)
    rw [if_neg h1]
    by_cases h2 : hi < a
    · have := (tn_lt64 _ _).mp h2
      rw [if_pos h2, if_neg (by omega)]
    · have h2' : ¬ hi.toInt < a.toInt := fun q => h2 ((tn_lt64 _ _).mpr q)
      rw [if_neg h2, if_pos (by omega)]
theorem tn_10 {c : Prop} [Decidable c] : ((if c then (1 : Int32) else 0) = 0) ↔ ¬ c := by
  by_cases h : c
  · simp [h]
  · simp [h]
theorem tn_01 {c : Prop} [Decidable c] : ((if c then (0 : Int32) else 1) = 0) ↔ c := by
  by_cases h : c
  · simp [h]
  · simp [h]
theorem tn_zr10 {c : Prop} [Decidable c] (σ : tn_M) : tn_zr (if c then 1 else 0) σ = some (if c then 1 else 0, σ) := by
  unfold tn_zr
  by_cases h : c
  · simp [h]
  · simp [h]
theorem tn_zr01 {c : Prop} [Decidable c] (σ : tn_M) : tn_zr (if c then 0 else 1) σ = some (if c then 0 else 1, σ) := by
  unfold tn_zr
  by_cases h : c
  · simp [h]
  · simp [h]
/-- in a range of ints, asked over longs -/
theorem tn_inI (x : Int32) (lo hi : Int64) (σ : tn_M) {a b : Int} (hl : lo.toInt = a) (hh : hi.toInt = b) : f_X5_in (Int32.toInt64 x) lo hi σ = some (if a ≤ x.toInt ∧ x.toInt ≤ b then 1 else 0, σ) := by
  rw [tn_in5, tn_t64, hl, hh]
/-! loops that count up: e - i rounds -/
theorem tn_loop {ρ : Type} (F : Nat → Nat → tn_M → Option (ρ × tn_M)) (I : Nat → tn_M → Prop) (Q : ρ → tn_M → Prop) (e : Nat) (hx : ∀ n σ, I e σ → tq (F (n + 1) e σ) Q) (hs : ∀ n i σ, i < e → I i σ → (∀ σ', I (i + 1) σ' → tq (F n (i + 1) σ') Q) → tq (F (n + 1) i σ) Q) : ∀ d n i σ, i + d = e → d < n → I i σ → tq (F n i σ) Q := by
  intro d
  induction d with
  | zero =>
    intro n i σ h1 h2 h3
    obtain ⟨m, rfl⟩ : ∃ m, n = m + 1 := ⟨n - 1, by omega⟩
    have : i = e := by omega
    subst this
    exact hx m σ h3
  | succ d ih =>
    intro n i σ h1 h2 h3
    obtain ⟨m, rfl⟩ : ∃ m, n = m + 1 := ⟨n - 1, by omega⟩
    exact hs m i σ (by omega) h3 (fun σ' h => ih m (i + 1) σ' (by omega) (by omega) h)
/-! the abstract state of both objects: len, text, settings, hours, turns, forms, sizes, items, latest -/
abbrev tA : Type := Nat × (Nat → Int32) × (Nat → Nat) × (Nat → Nat) × (Nat → Nat) × (Nat → Int32) × (Nat → Nat) × (Nat → Nat → Int32) × Int32
abbrev aL (A : tA) : Nat := A.1
abbrev aT (A : tA) : Nat → Int32 := A.2.1
abbrev aG (A : tA) : Nat → Nat := A.2.2.1
abbrev aH (A : tA) : Nat → Nat := A.2.2.2.1
abbrev aU (A : tA) : Nat → Nat := A.2.2.2.2.1
abbrev aF (A : tA) : Nat → Int32 := A.2.2.2.2.2.1
abbrev aZ (A : tA) : Nat → Nat := A.2.2.2.2.2.2.1
abbrev aI (A : tA) : Nat → Nat → Int32 := A.2.2.2.2.2.2.2.1
abbrev aN (A : tA) : Int32 := A.2.2.2.2.2.2.2.2
def tn_hN (j : Nat) : Nat := ([16, 3, 3, 999, 16, 8, 8, 8] : List Nat).getD j 0
def tW (A : tA) : Prop := aL A ≤ 150 ∧ (∀ j, j < 8 → aG A j ≤ tn_hN j) ∧ (∀ k, k < 5 → aH A k ≤ 3) ∧ (∀ e, e < 6 → aU A e ≤ 31) ∧ (∀ s, s < 4 → aF A s = -1 ∨ ∃ f, f ≤ 2 ∧ aF A s = nI f) ∧ (∀ s, s < 4 → aZ A s ≤ 60)
/-- the class's cells that hold the state, all but what it knows of the street -/
def C0 (A : tA) (σ : tn_M) : Prop := σ.1 1 4 = nI (aL A) ∧ (∀ j, j < aL A → σ.1 9 j = aT A j) ∧ (∀ j, j < 8 → σ.1 6 j = nI (aG A j)) ∧ (∀ k, k < 5 → σ.1 7 k = nI (aH A k)) ∧ (∀ e, e < 6 → σ.1 8 e = nI (aU A e)) ∧ (∀ s, s < 4 → σ.1 26 s = aF A s) ∧ (∀ s, s < 4 → σ.1 27 s = nI (aZ A s)) ∧ (∀ s, s < 4 → ∀ i, i < aZ A s → σ.1 (29 + s) i = aI A s i) ∧ σ.1 4 3 = aN A
/-- the model's cells that hold the state -/
def M0 (A : tA) (σ : tn_M) : Prop := σ.1 5 6 = nI (aL A) ∧ (∀ j, j < aL A → σ.1 37 j = aT A j) ∧ (∀ j, j < 8 → σ.1 41 j = nI (aG A j)) ∧ (∀ k, k < 5 → σ.1 42 k = nI (aH A k)) ∧ (∀ e, e < 6 → σ.1 43 e = nI (aU A e)) ∧ (∀ s, s < 4 → σ.1 33 s = aF A s) ∧ (∀ s, s < 4 → σ.1 34 s = nI (aZ A s)) ∧ (∀ s, s < 4 → ∀ i, i < aZ A s → σ.1 35 (60 * s + i) = aI A s i) ∧ σ.1 5 4 = aN A
