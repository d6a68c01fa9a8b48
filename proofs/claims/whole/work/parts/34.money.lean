/-! the street as numbers: shops, sorts, sizes, costs, rows (hour, many, likes, go, back, worth) -/
abbrev tR : Type := Nat × Nat × Option Nat × Nat × Nat × Nat
abbrev tS : Type := Nat × Nat × (Nat → Nat) × (Nat → Nat) × (Nat → tR)
abbrev sn (S : tS) : Nat := S.1
abbrev sm (S : tS) : Nat := S.2.1
abbrev sz (S : tS) : Nat → Nat := S.2.2.1
abbrev sc (S : tS) : Nat → Nat := S.2.2.2.1
abbrev sr (S : tS) : Nat → tR := S.2.2.2.2
def tVR (n : Nat) (r : tR) : Prop := 1 ≤ r.1 ∧ r.1 ≤ 3 ∧ 1 ≤ r.2.1 ∧ r.2.1 ≤ 99 ∧ (∀ l, r.2.2.1 = some l → l < n) ∧ r.2.2.2.1 ≤ 16 ∧ r.2.2.2.2.1 ≤ 16 ∧ 1 ≤ r.2.2.2.2.2 ∧ r.2.2.2.2.2 ≤ 99
def tV (S : tS) : Prop := sn S ≤ 5 ∧ sm S ≤ 6 ∧ (∀ k, k < sn S → 1 ≤ sz S k ∧ sz S k ≤ 3 ∧ sc S k ≤ 99) ∧ ∀ i, i < sm S → tVR (sn S) (sr S i)
def tn_lki (o : Option Nat) : Int32 := match o with
  | none => -1
  | some l => nI l
def tn_er (r : tR) (j : Nat) : Int32 := match j with
  | 0 => nI r.1
  | 1 => nI r.2.1
  | 2 => tn_lki r.2.2.1
  | 3 => nI r.2.2.2.1
  | 4 => nI r.2.2.2.2.1
  | _ => nI r.2.2.2.2.2
def tn_S (f : Nat → Nat) : Nat → Nat
  | 0 => 0
  | n + 1 => tn_S f n + f n
theorem tn_S_congr {f g : Nat → Nat} : ∀ {n : Nat}, (∀ k, k < n → f k = g k) → tn_S f n = tn_S g n
  | 0, _ => rfl
  | n + 1, h => by
    show tn_S f n + f n = tn_S g n + g n
    rw [tn_S_congr (fun k hk => h k (by omega)), h n (by omega)]
theorem tn_S_le {f : Nat → Nat} {c : Nat} : ∀ {n : Nat}, (∀ k, k < n → f k ≤ c) → tn_S f n ≤ n * c
  | 0, _ => by simp [tn_S]
  | n + 1, h => by
    have h1 := tn_S_le (n := n) (fun k hk => h k (by omega))
    have h2 := h n (by omega)
    show tn_S f n + f n ≤ (n + 1) * c
    rw [Nat.add_mul]
    omega
theorem tn_S_mul {f : Nat → Nat} (c : Nat) : ∀ n : Nat, tn_S (fun k => f k * c) n = tn_S f n * c
  | 0 => by simp [tn_S]
  | n + 1 => by
    show tn_S (fun k => f k * c) n + f n * c = (tn_S f n + f n) * c
    rw [tn_S_mul c n, Nat.add_mul]
theorem tn_S_add {f g : Nat → Nat} : ∀ n : Nat, tn_S (fun k => f k + g k) n = tn_S f n + tn_S g n
  | 0 => rfl
  | n + 1 => by
    show tn_S (fun k => f k + g k) n + (f n + g n) = (tn_S f n + f n) + (tn_S g n + g n)
    rw [tn_S_add n]
    omega
theorem tn_S_0 : ∀ n : Nat, tn_S (fun _ => 0) n = 0
  | 0 => rfl
  | n + 1 => by
    show tn_S (fun _ => 0) n + 0 = 0
    rw [tn_S_0 n]
theorem tn_S_ge {f : Nat → Nat} : ∀ {n k : Nat}, k < n → f k ≤ tn_S f n
  | 0, k, h => by omega
  | n + 1, k, h => by
    show f k ≤ tn_S f n + f n
    by_cases e : k = n
    · subst e; omega
    · have := tn_S_ge (f := f) (n := n) (k := k) (by omega)
      omega
def ssz (S : tS) (B : Nat) : Nat := tn_S (fun k => if B.testBit k then sz S k else 0) (sn S)
def tn_pop (B : Nat) : Nat := tn_S (fun k => if B.testBit k then 1 else 0) 5
def tn_cr (light B many : Nat) : Nat := many * (16 + light * (tn_pop B - 1)) * 360360
def tn_sh (S : tS) (B A w k : Nat) : Nat := if B.testBit k then A / ssz S B * sz S k * w else 0
def tn_sv (S : tS) (B A : Nat) : Nat := if ssz S B = 0 then 0 else A
def tn_ahead (S : tS) (r : tR) : Nat := match r.2.2.1 with
  | none => 2 ^ sn S - 1
  | some l => 2 ^ l
def tn_lk (r : tR) (B : Nat) : Bool := match r.2.2.1 with
  | none => false
  | some l => B.testBit l
def tn_go (r : tR) (B : Nat) : Nat := if B = 0 then 0 else r.2.2.2.1
/-- what a sort brings to shop k when the shops of B are open, and how many buy: habits apart -/
def tn_c (S : tS) (light : Nat) (r : tR) (B k : Nat) : Nat :=
  if tn_lk r B then tn_sh S (tn_ahead S r) (tn_cr light B r.2.1 * 256) r.2.2.2.2.2 k
  else tn_sh S B (tn_cr light B r.2.1 * tn_go r B * 16) r.2.2.2.2.2 k + tn_sh S (tn_ahead S r) (tn_cr light B r.2.1 * (16 - tn_go r B) * r.2.2.2.2.1) r.2.2.2.2.2 k
def tn_s (S : tS) (light : Nat) (r : tR) (B : Nat) : Nat :=
  if tn_lk r B then tn_sv S (tn_ahead S r) (tn_cr light B r.2.1 * 256)
  else tn_sv S B (tn_cr light B r.2.1 * tn_go r B * 16) + tn_sv S (tn_ahead S r) (tn_cr light B r.2.1 * (16 - tn_go r B) * r.2.2.2.2.1)
theorem ssz_le {S : tS} (h : tV S) (B : Nat) : ssz S B ≤ 15 := by
  have h1 : ssz S B ≤ sn S * 3 := tn_S_le (fun k hk => by
    have := (h.2.2.1 k hk).2.1
    split <;> omega)
  have := h.1
  omega
theorem ssz_bit {S : tS} (h : tV S) {B k : Nat} (hk : k < sn S) (hb : B.testBit k = true) : 1 ≤ ssz S B := by
  have h1 := tn_S_ge (f := fun k => if B.testBit k then sz S k else 0) hk
  have h2 := (h.2.2.1 k hk).1
  simp only [hb, if_true] at h1
  exact Nat.le_trans h2 h1
theorem tn_dvd : ∀ s, s ≤ 15 → s = 0 ∨ s ∣ 360360 := by decide +kernel
theorem ssz_dvd {S : tS} (h : tV S) (B X : Nat) (h0 : ssz S B ≠ 0) : ssz S B ∣ X * 360360 := by
  rcases tn_dvd _ (ssz_le h B) with h1 | h1
  · exact absurd h1 h0
  · exact Nat.dvd_mul_left_of_dvd h1 X
theorem cr_dvd {S : tS} (h : tV S) (B light b many X : Nat) (h0 : ssz S B ≠ 0) : ssz S B ∣ tn_cr light b many * X := by
  unfold tn_cr
  exact Nat.dvd_mul_right_of_dvd (ssz_dvd h B _ h0) X
/-- all shares together -/
theorem sh_sum {S : tS} {B A w : Nat} (hd : ssz S B ≠ 0 → ssz S B ∣ A) : tn_S (tn_sh S B A w) (sn S) = tn_sv S B A * w := by
  unfold tn_sv
  by_cases h0 : ssz S B = 0
  · rw [if_pos h0, Nat.zero_mul]
    have : tn_S (tn_sh S B A w) (sn S) = tn_S (fun _ => 0) (sn S) := tn_S_congr (fun k hk => by
      unfold tn_sh
      rw [h0, Nat.div_zero]
      split <;> simp)
    rw [this, tn_S_0]
  · rw [if_neg h0]
    have e : tn_S (tn_sh S B A w) (sn S) = tn_S (fun k => (if B.testBit k then sz S k else 0) * (A / ssz S B * w)) (sn S) := tn_S_congr (fun k hk => by
      unfold tn_sh
      split
      · rw [Nat.mul_comm (A / ssz S B) (sz S k), Nat.mul_assoc]
      · simp)
    rw [e, tn_S_mul]
    show ssz S B * (A / ssz S B * w) = A * w
    rw [← Nat.mul_assoc, Nat.mul_div_cancel' (hd h0)]
theorem sh_mul {S : tS} {B A w k : Nat} (y : Nat) (hd : ssz S B ≠ 0 → ssz S B ∣ A) : tn_sh S B (A * y) w k = tn_sh S B A w k * y := by
  unfold tn_sh
  split
  · by_cases h0 : ssz S B = 0
    · simp [h0]
    · obtain ⟨q, rfl⟩ := hd h0
      have hp : 0 < ssz S B := by omega
      rw [Nat.mul_assoc (ssz S B) q y, Nat.mul_div_cancel_left _ hp, Nat.mul_div_cancel_left _ hp]
      rw [Nat.mul_right_comm q y, Nat.mul_right_comm (q * sz S k) y]
  · simp
theorem sv_mul {S : tS} {B A : Nat} (y : Nat) : tn_sv S B (A * y) = tn_sv S B A * y := by
  unfold tn_sv
  split <;> simp
theorem c_sum {S : tS} (h : tV S) (light : Nat) (r : tR) (B : Nat) : tn_S (tn_c S light r B) (sn S) = tn_s S light r B * r.2.2.2.2.2 := by
  unfold tn_c tn_s
  split
  · exact sh_sum (fun h0 => cr_dvd h _ _ _ _ _ h0)
  · rw [tn_S_add, sh_sum (fun h0 => by rw [Nat.mul_assoc]; exact cr_dvd h _ _ _ _ _ h0), sh_sum (fun h0 => by rw [Nat.mul_assoc]; exact cr_dvd h _ _ _ _ _ h0), Nat.add_mul]
/-- the open shops of an hour, as bits -/
def tn_mk (n : Nat) (u : Nat → Nat) (h : Nat) : Nat := tn_S (fun k => if h ≤ u k then 2 ^ k else 0) n
theorem mk_lt (u : Nat → Nat) (h : Nat) : ∀ n, tn_mk n u h < 2 ^ n
  | 0 => by simp [tn_mk, tn_S]
  | n + 1 => by
    have := mk_lt u h n
    show tn_mk n u h + (if h ≤ u n then 2 ^ n else 0) < 2 ^ (n + 1)
    rw [Nat.pow_succ]
    split <;> omega
theorem mk_bit (u : Nat → Nat) (h : Nat) : ∀ n k, (tn_mk n u h).testBit k = decide (k < n ∧ h ≤ u k)
  | 0, k => by simp [tn_mk, tn_S]
  | n + 1, k => by
    have e : tn_mk (n + 1) u h = (if h ≤ u n then 2 ^ n else 0) + tn_mk n u h := Nat.add_comm _ _
    have hl := mk_lt u h n
    have ih := mk_bit u h n k
    rw [e]
    by_cases hu : h ≤ u n
    · rw [if_pos hu]
      have e2 : 2 ^ n + tn_mk n u h = 2 ^ n * 1 + tn_mk n u h := by rw [Nat.mul_one]
      rw [e2, Nat.testBit_two_pow_mul_add 1 hl]
      by_cases hk : k < n
      · rw [if_pos hk, ih]
        simp [hk, Nat.lt_succ_of_lt hk]
      · rw [if_neg hk]
        by_cases e3 : k = n
        · subst e3
          simp [hu]
        · have : ¬ k < n + 1 := by omega
          simp only [this, false_and, decide_false]
          obtain ⟨j, hj⟩ : ∃ j, k - n = j + 1 := ⟨k - n - 1, by omega⟩
          rw [hj, Nat.testBit_succ]
          simp
    · rw [if_neg hu, Nat.zero_add, ih]
      by_cases e3 : k = n
      · subst e3
        simp [hu]
      · have : (k < n + 1) ↔ (k < n) := by omega
        simp [this]
theorem mk_ext {n B : Nat} {u : Nat → Nat} {h : Nat} (hB : B < 2 ^ n) (hb : ∀ k, k < n → B.testBit k = decide (h ≤ u k)) : B = tn_mk n u h := by
  apply Nat.eq_of_testBit_eq
  intro k
  rw [mk_bit]
  by_cases hk : k < n
  · rw [hb k hk]
    simp [hk]
  · have : B.testBit k = false := Nat.testBit_lt_two_pow (Nat.lt_of_lt_of_le hB (Nat.pow_le_pow_right (by omega) (by omega)))
    rw [this]
    simp [hk]
theorem mk_congr {n : Nat} {u v : Nat → Nat} {h : Nat} (e : ∀ k, k < n → u k = v k) : tn_mk n u h = tn_mk n v h := tn_S_congr (fun k hk => by rw [e k hk])
theorem mk_0 {n : Nat} {u : Nat → Nat} {h : Nat} : tn_mk n u h = 0 ↔ ∀ k, k < n → ¬ h ≤ u k := by
  constructor
  · intro e k hk hu
    have := mk_bit u h n k
    rw [e] at this
    simp [hk, hu] at this
  · intro e
    refine (mk_ext (n := n) (u := u) (h := h) (B := 0) (Nat.two_pow_pos n) (fun k hk => ?_)).symm
    simp [e k hk]
/-- what a shop is brought -/
def tn_inc (S : tS) (light : Nat) (hb u : Nat → Nat) (k : Nat) : Nat := tn_S (fun i => tn_c S light (sr S i) (tn_mk (sn S) u (sr S i).1) k * (8 + hb (sr S i).1)) (sm S)
def tn_srv (S : tS) (light : Nat) (hb u : Nat → Nat) : Nat := tn_S (fun i => tn_s S light (sr S i) (tn_mk (sn S) u (sr S i).1) * (8 + hb (sr S i).1)) (sm S)
def tn_bro (S : tS) (light : Nat) (hb u : Nat → Nat) : Nat := tn_S (fun i => tn_s S light (sr S i) (tn_mk (sn S) u (sr S i).1) * (sr S i).2.2.2.2.2 * (8 + hb (sr S i).1)) (sm S)
theorem S_swap (f : Nat → Nat → Nat) (n : Nat) : ∀ m, tn_S (fun k => tn_S (fun i => f i k) m) n = tn_S (fun i => tn_S (f i) n) m
  | 0 => tn_S_0 n
  | m + 1 => by
    show tn_S (fun k => tn_S (fun i => f i k) m + f m k) n = tn_S (fun i => tn_S (f i) n) m + tn_S (f m) n
    rw [tn_S_add, S_swap f n m]
theorem inc_sum {S : tS} (h : tV S) (light : Nat) (hb u : Nat → Nat) : tn_S (tn_inc S light hb u) (sn S) = tn_bro S light hb u := by
  unfold tn_inc tn_bro
  rw [S_swap (fun i k => tn_c S light (sr S i) (tn_mk (sn S) u (sr S i).1) k * (8 + hb (sr S i).1))]
  refine tn_S_congr (fun i hi => ?_)
  rw [tn_S_mul (f := fun k => tn_c S light (sr S i) (tn_mk (sn S) u (sr S i).1) k)]
  rw [show tn_S (fun k => tn_c S light (sr S i) (tn_mk (sn S) u (sr S i).1) k) (sn S) = _ from c_sum h light (sr S i) _]
/-- by hours: the sorts of an hour, then the hours -/
def tn_th (S : tS) (f : Nat → Nat) (h : Nat) : Nat := tn_S (fun i => if (sr S i).1 = h then f i else 0) (sm S)
theorem th_split (S : tS) (f : Nat → Nat → Nat) (hv : ∀ i, i < sm S → 1 ≤ (sr S i).1 ∧ (sr S i).1 ≤ 3) (y : Nat → Nat) : tn_th S (f 1) 1 * y 1 + tn_th S (f 2) 2 * y 2 + tn_th S (f 3) 3 * y 3 = tn_S (fun i => f (sr S i).1 i * y (sr S i).1) (sm S) := by
  unfold tn_th
  generalize sm S = m at hv
  induction m with
  | zero => simp [tn_S]
  | succ m ih =>
    have ih := ih (fun i hi => hv i (by omega))
    obtain ⟨h1, h2⟩ := hv m (by omega)
    simp only [tn_S]
    rw [← ih]
    simp only [Nat.add_mul]
    rcases (by omega : (sr S m).1 = 1 ∨ (sr S m).1 = 2 ∨ (sr S m).1 = 3) with e | e | e <;> simp [e] <;> omega
