/-! what the scene answers: taken, burden, earning, together, weigh, reply -/
def tn_cl (e : tEc) (hb u : Nat → Nat) (c : Nat) : Nat := tn_S (fun i => tn_cc (eS e) (eL e) (sr (eS e) i) (tn_mk (sn (eS e)) u (sr (eS e) i).1) c * (8 + hb (sr (eS e) i).1)) (sm (eS e))
theorem cl_inc (e : tEc) (hb u : Nat → Nat) {c : Nat} (h : c < sn (eS e)) : tn_cl e hb u c = tn_inc (eS e) (eL e) hb u c := tn_S_congr (fun i _ => by rw [cc_c h])
theorem cl_bro (e : tEc) (hn : sn (eS e) ≤ 5) (hb u : Nat → Nat) : tn_cl e hb u 5 = tn_bro (eS e) (eL e) hb u := tn_S_congr (fun i _ => by rw [cc_5 hn])
theorem cl_srv (e : tEc) (hn : sn (eS e) ≤ 5) (hb u : Nat → Nat) : tn_cl e hb u 6 = tn_srv (eS e) (eL e) hb u := tn_S_congr (fun i _ => by rw [cc_6 hn])
/-- one place of the table, with the habit -/
def tn_pl (e : tEc) (hb : Nat → Nat) (h B c : Nat) : Nat := tn_T1 (eS e) (eL e) (sm (eS e)) h B c * (8 + hb h)
theorem cl_split (e : tEc) (hV : tVe e) (hb u : Nat → Nat) (c : Nat) : tn_pl e hb 1 (tn_mk (sn (eS e)) u 1) c + tn_pl e hb 2 (tn_mk (sn (eS e)) u 2) c + tn_pl e hb 3 (tn_mk (sn (eS e)) u 3) c = tn_cl e hb u c := by
  have h := th_split (eS e) (fun h i => tn_cc (eS e) (eL e) (sr (eS e) i) (tn_mk (sn (eS e)) u h) c) (fun i hi => ⟨(hV.1.2.2.2 i hi).1, (hV.1.2.2.2 i hi).2.1⟩) (fun h => 8 + hb h)
  exact h
section EA
variable {e : tEc} {hb u lim : Nat → Nat} {held : Int32} {σ : tn_M}
theorem s_cell (hV : tVe e) (hs : cSc e hb u lim held σ) {h B c : Nat} (h1 : 1 ≤ h) (h3 : h ≤ 3) (hB : B < 2 ^ sn (eS e)) (hc : c < 7) : σ.2 19 (((h - 1) * 32 + B) * 7 + c) * (Int32.toInt64 (8 + σ.1 22 h)) = lN (tn_pl e hb h B c) := by
  have h8 := hs.h8 h1 h3
  rw [hs.tb h B c h1 h3 hB hc, hs.ha h1 h3, tn_L 8, nI_add, tn_l (by omega), lN_mul]
  rfl
theorem s_taken (hV : tVe e) (hs : cSc e hb u lim held σ) {c : Nat} (hc : c < 7) : f_X0_taken (nI c) σ = some (lN (tn_cl e hb u c), σ) := by
  have hn := hV.1.1
  have hp : 2 ^ sn (eS e) ≤ 32 := (Nat.pow_le_pow_right (by omega) hn : 2 ^ sn (eS e) ≤ 2 ^ 5)
  have m1 := mk_lt u 1 (sn (eS e))
  have m2 := mk_lt u 2 (sn (eS e))
  have m3 := mk_lt u 3 (sn (eS e))
  have step : ∀ (n : Nat) (x : Int64) (h : Nat), 1 ≤ h → h ≤ 3 → F_X0_taken_5 (n + 1) (nI c) x (nI h) σ = F_X0_taken_5 n (nI c) (x + lN (tn_pl e hb h (tn_mk (sn (eS e)) u h) c)) (nI (h + 1)) σ := by
    intro n x h h1 h3
    have mh := mk_lt u h (sn (eS e))
    rw [F_X0_taken_5, tn_L 3, if_neg (nI_nlt (by omega) (by omega)), tn_ckn (by omega) (by decide), tn_xn (by omega), hs.li h1 h3, tn_rowOf h1 h3 (by omega), tn_bds, nI_add, tn_ckn (by omega) (by decide), tn_ckn (by omega) (by decide), tn_xn (by omega), s_cell hV hs h1 h3 mh hc, nI_1]
    rfl
  unfold f_X0_taken
  show F_X0_taken_5 (1996 + 1 + 1 + 1 + 1) (nI c) 0 (nI 1) σ = _
  rw [step _ _ 1 (by omega) (by omega), step _ _ 2 (by omega) (by omega), step _ _ 3 (by omega) (by omega), F_X0_taken_5, if_pos (by decide)]
  rw [show (0 : Int64) = lN 0 from rfl, lN_add, lN_add, lN_add, Nat.zero_add, cl_split e hV]
theorem s_burden (hV : tVe e) (hs : cSc e hb u lim held σ) {k v : Nat} (hk : k < sn (eS e)) (hv : v ≤ 3) : f_X0_burden (nI k) (nI v) σ = some (tn_bu e k v, σ) := by
  have hn := hV.1.1
  obtain ⟨z1, z2, z3⟩ := hV.1.2.2.1 k hk
  have hc := hV.2.2.1
  have hm := hV.2.2.2.1
  have hb2 : sc (eS e) k * v ≤ 99 * 3 := Nat.mul_le_mul z3 hv
  unfold f_X0_burden tn_bu
  rw [tn_ckn (by omega) (by decide), tn_xn (by omega), (hs.st.2.2.1 k hk).1, (hs.st.2.2.1 k hk).2, pk_mul, tn_l (by omega), tn_LL 11808276480, lN_mul, hs.cap, hs.sma, hs.fin, hs.pr k]
  show (if nI v ≤ nI (eC e) then _ else _) = _
  by_cases c1 : v ≤ eC e
  · rw [if_pos (nI_le c1 (by omega)), if_neg (by omega), Int64.add_zero]
  · rw [if_neg (nI_ge (by omega) (by omega)), tn_ckn (by omega) (by decide)]
    by_cases c2 : sz (eS e) k ≤ eM e
    · rw [if_pos (nI_le c2 (by omega)), if_neg (by omega), Int64.add_zero]
    · rw [if_neg (nI_ge (by omega) (by omega)), if_pos (by omega)]
theorem s_earning (hV : tVe e) (hs : cSc e hb u lim held σ) {k : Nat} (hk : k < sn (eS e)) : f_X0_earning (nI k) σ = some (tn_ea e hb u k, σ) := by
  have hn := hV.1.1
  unfold f_X0_earning
  rw [s_taken hV hs (by omega), tn_bds, tn_ckn (by omega) (by decide), tn_xn (by omega), hs.un (by omega), s_burden hV hs hk (hs.u3 (by omega)), tn_bds, cl_inc e hb u hk]
  rfl
/-- together: all that is brought, less each shop's burden -/
def tn_bus (e : tEc) (u : Nat → Nat) (x : Int64) : Nat → Int64
  | 0 => x
  | n + 1 => tn_bus e u x n - tn_bu e n (u n)
def tn_to (e : tEc) (hb u : Nat → Nat) : Int64 := tn_bus e u (lN (tn_bro (eS e) (eL e) hb u)) (sn (eS e))
theorem s_together (hV : tVe e) (hs : cSc e hb u lim held σ) : f_X0_together σ = some (tn_to e hb u, σ) := by
  have hn := hV.1.1
  have lp : ∀ d n k (x : Int64), k + d = sn (eS e) → d < n → F_X0_together_8 n (tn_bus e u x k) (nI k) σ = some (tn_bus e u x (sn (eS e)), σ) := by
    intro d
    induction d with
    | zero =>
      intro n k x h1 h2
      obtain ⟨m, rfl⟩ : ∃ m, n = m + 1 := ⟨n - 1, by omega⟩
      have : k = sn (eS e) := by omega
      subst this
      rw [F_X0_together_8, hs.st.1, if_pos (nI_le (Nat.le_refl _) (by omega))]
    | succ d ih =>
      intro n k x h1 h2
      obtain ⟨m, rfl⟩ : ∃ m, n = m + 1 := ⟨n - 1, by omega⟩
      rw [F_X0_together_8, hs.st.1, if_neg (nI_ge (by omega) (by omega)), tn_ckn (by omega) (by decide), tn_xn (by omega), hs.un (by omega), s_burden hV hs (by omega) (hs.u3 (by omega)), tn_bds, nI_1]
      exact ih m (k + 1) x (by omega) (by omega)
  unfold f_X0_together
  have h5 := s_taken hV hs (c := 5) (by omega)
  rw [cl_bro e hn] at h5
  rw [show (5 : Int32) = nI 5 from rfl, h5, tn_bds]
  exact lp (sn (eS e)) tn_fuel 0 _ (by omega) (by unfold tn_fuel; omega)
def tn_aim (e : tEc) (hb u : Nat → Nat) (w : Nat) : Int64 := if w = 0 then tn_to e hb u else lN (tn_srv (eS e) (eL e) hb u)
theorem s_aim (hV : tVe e) (hs : cSc e hb u lim held σ) {w : Nat} (hw : w < 2 ^ 31) : f_X0_aim (nI w) σ = some (tn_aim e hb u w, σ) := by
  unfold f_X0_aim tn_aim
  by_cases h : w = 0
  · rw [if_pos (by rw [h]; rfl), if_pos h, s_together hV hs, tn_bds]
  · have h6 := s_taken hV hs (c := 6) (by omega)
    rw [cl_srv e hV.1.1] at h6
    rw [if_neg (nI_ne0 (by omega) hw), if_neg h, show (6 : Int32) = nI 6 from rfl, h6, tn_bds]
/-! weigh: what the shop would earn by each of its hours -/
theorem i64_w1 (a b c x : Int64) : a + b + c + (x - a) = x + b + c := by grind
theorem i64_w2 (a b c x y : Int64) : a + b + c + (x - a) + (y - b) = x + y + c := by grind
theorem i64_w3 (a b c x y z : Int64) : a + b + c + (x - a) + (y - b) + (z - c) = x + y + z := by grind
theorem mk_lo {n : Nat} (hn : n ≤ 5) (u : Nat → Nat) {k h : Nat} (hk : k < n) (h1 : 1 ≤ h) : nI (tn_mk n u h) &&& (((1 : Int32) <<< (nI k &&& 31)) ^^^ (-1)) = nI (tn_mk n (va_up u k 0) h) := by
  have hl := mk_lt u h n
  have h32 : tn_mk n u h < 32 := Nat.lt_of_lt_of_le hl (Nat.pow_le_pow_right (by omega) hn : 2 ^ n ≤ 2 ^ 5)
  rw [tn_b4 _ h32 k (by omega), mk_clr hn u hk (v := 0) (by omega)]
theorem mk_hi {n : Nat} (hn : n ≤ 5) (u : Nat → Nat) {k h : Nat} (hk : k < n) (h3 : h ≤ 3) : nI (tn_mk n (va_up u k 0) h) ||| ((1 : Int32) <<< (nI k &&& 31)) = nI (tn_mk n (va_up u k 3) h) := by
  have hl := mk_lt (va_up u k 0) h n
  have h32 : tn_mk n (va_up u k 0) h < 32 := Nat.lt_of_lt_of_le hl (Nat.pow_le_pow_right (by omega) hn : 2 ^ n ≤ 2 ^ 5)
  rw [tn_b3 _ h32 k (by omega), mk_set hn _ hk h3, bx_uu]
theorem mk_up {n : Nat} (u : Nat → Nat) {k h v : Nat} (h1 : 1 ≤ h) (h3 : h ≤ 3) : tn_mk n (va_up u k v) h = if h ≤ v then tn_mk n (va_up u k 3) h else tn_mk n (va_up u k 0) h := by
  split
  · next q =>
    refine tn_S_congr (fun j hj => ?_)
    unfold va_up
    by_cases e : j = k
    · simp [e, q, h3]
    · simp [e]
  · next q =>
    refine tn_S_congr (fun j hj => ?_)
    unfold va_up
    by_cases e : j = k
    · have : ¬ h ≤ 0 := by omega
      simp [e, q, this]
    · simp [e]
theorem s_weigh (hV : tVe e) (hs : cSc e hb u lim held σ) {k : Nat} (hk : k < sn (eS e)) : tq (f_X0_weigh (nI k) σ) (fun _ σ' => (∀ v, v ≤ 3 → σ'.2 25 v = tn_ea e hb (va_up u k v) k) ∧ tn_fr [(25, 999)] σ σ') := by
  have hn := hV.1.1
  have hp : 2 ^ sn (eS e) ≤ 32 := (Nat.pow_le_pow_right (by omega) hn : 2 ^ sn (eS e) ≤ 2 ^ 5)
  have key : tq (f_X0_weigh (nI k) σ) (fun _ σ' => ∀ v, v ≤ 3 → σ'.2 25 v = tn_ea e hb (va_up u k v) k) := by
    unfold f_X0_weigh
    refine tq_lt ?_
    have keep : ∀ {τ : tn_M} (j : Nat) (x : Int64), cSc e hb u lim held τ → cSc e hb u lim held (tn_sl τ 25 j x) := fun j x h => cSc_keep hV h (tn_fr.sl (by simp [tn_ms]) tn_fr.rf)
    have step : ∀ (n : Nat) (x : Int64) (h : Nat) (τ : tn_M), 1 ≤ h → h ≤ 3 → cSc e hb u lim held τ → F_X0_weigh_9 (n + 1) (nI k) ((1 : Int32) <<< (nI k &&& 31)) x (nI h) τ = F_X0_weigh_9 n (nI k) ((1 : Int32) <<< (nI k &&& 31)) (x + lN (tn_pl e hb h (tn_mk (sn (eS e)) (va_up u k 0) h) k)) (nI (h + 1)) (tn_sl τ 25 h (lN (tn_pl e hb h (tn_mk (sn (eS e)) (va_up u k 3) h) k) - lN (tn_pl e hb h (tn_mk (sn (eS e)) (va_up u k 0) h) k))) := by
      intro n x h τ h1 h3 ht
      have m0 := mk_lt (va_up u k 0) h (sn (eS e))
      have m3 := mk_lt (va_up u k 3) h (sn (eS e))
      rw [F_X0_weigh_9, tn_L 3, if_neg (nI_nlt (by omega) (by omega)), tn_ckn (by omega) (by decide), tn_xn (by omega), ht.li h1 h3, mk_lo hn u hk h1]
      simp only [tn_lt]
      rw [tn_rowOf h1 h3 (by omega), tn_bds, nI_add, tn_ckn (by omega) (by decide), tn_ckn (by omega) (by decide), tn_xn (by omega), s_cell hV ht h1 h3 m0 (by omega), mk_hi hn u hk h3, tn_rowOf h1 h3 (by omega), tn_bds, nI_add, tn_ckn (by omega) (by decide), tn_ckn (by omega) (by decide), tn_xn (by omega), s_cell hV ht h1 h3 m3 (by omega), tn_ckn (by omega) (by decide), nI_1]
    have step2 : ∀ (n : Nat) (x : Int64) (h : Nat) (τ : tn_M), 1 ≤ h → h ≤ 3 → cSc e hb u lim held τ → F_X0_weigh_125 (n + 1) (nI k) x (nI h) τ = F_X0_weigh_125 n (nI k) (x + τ.2 25 h) (nI (h + 1)) (tn_sl τ 25 h (x + τ.2 25 h - tn_bu e k h)) := by
      intro n x h τ h1 h3 ht
      rw [F_X0_weigh_125, tn_L 3, if_neg (nI_nlt (by omega) (by omega)), tn_ckn (by omega) (by decide), tn_xn (by omega)]
      simp only [tn_lt]
      rw [s_burden hV ht hk h3, tn_bds, tn_ckn (by omega) (by decide), nI_1]
    show tq (F_X0_weigh_9 (1996 + 1 + 1 + 1 + 1) (nI k) _ 0 (nI 1) σ) _
    rw [step _ _ 1 _ (by omega) (by omega) hs, step _ _ 2 _ (by omega) (by omega) (keep _ _ hs), step _ _ 3 _ (by omega) (by omega) (keep _ _ (keep _ _ hs)), F_X0_weigh_9, if_pos (by decide)]
    unfold F_X0_weigh_115
    refine tq_lt ?_
    have h3' := keep 3 (lN (tn_pl e hb 3 (tn_mk (sn (eS e)) (va_up u k 3) 3) k) - lN (tn_pl e hb 3 (tn_mk (sn (eS e)) (va_up u k 0) 3) k)) (keep 2 (lN (tn_pl e hb 2 (tn_mk (sn (eS e)) (va_up u k 3) 2) k) - lN (tn_pl e hb 2 (tn_mk (sn (eS e)) (va_up u k 0) 2) k)) (keep 1 (lN (tn_pl e hb 1 (tn_mk (sn (eS e)) (va_up u k 3) 1) k) - lN (tn_pl e hb 1 (tn_mk (sn (eS e)) (va_up u k 0) 1) k)) hs))
    show tq (F_X0_weigh_125 (1996 + 1 + 1 + 1 + 1) (nI k) _ (nI 1) _) _
    rw [step2 _ _ 1 _ (by omega) (by omega) (keep _ _ h3'), step2 _ _ 2 _ (by omega) (by omega) (keep _ _ (keep _ _ h3')), step2 _ _ 3 _ (by omega) (by omega) (keep _ _ (keep _ _ (keep _ _ h3'))), F_X0_weigh_125, if_pos (by decide)]
    refine tq_some (fun v hv => ?_)
    have ev : tn_ea e hb (va_up u k v) k = lN (tn_pl e hb 1 (tn_mk (sn (eS e)) (va_up u k v) 1) k + tn_pl e hb 2 (tn_mk (sn (eS e)) (va_up u k v) 2) k + tn_pl e hb 3 (tn_mk (sn (eS e)) (va_up u k v) 3) k) - tn_bu e k v := by
      unfold tn_ea
      rw [← cl_inc e hb _ hk, ← cl_split e hV]
      have : va_up u k v k = v := by simp [va_up]
      rw [this]
    rw [ev, mk_up u (h := 1) (k := k) (v := v) (by omega) (by omega), mk_up u (h := 2) (k := k) (v := v) (by omega) (by omega), mk_up u (h := 3) (k := k) (v := v) (by omega) (by omega), ← lN_add, ← lN_add]
    have b0 : tn_bu e k 0 = 0 := by
      unfold tn_bu
      simp
      rfl
    rcases (by omega : v = 0 ∨ v = 1 ∨ v = 2 ∨ v = 3) with rfl | rfl | rfl | rfl
    · rw [b0]
      simp [tn_sl_2]
    · simp [tn_sl_2]
      exact i64_w1 _ _ _ _
    · simp [tn_sl_2]
      exact i64_w2 _ _ _ _ _
    · simp [tn_sl_2]
      exact i64_w3 _ _ _ _ _ _
  exact tq_fr (fr_X0_weigh _ _) key
/-! the first hours with most -/
def tn_an (o : Nat → Int64) : Nat → Nat
  | 0 => 0
  | h + 1 => if o (tn_an o h) < o (h + 1) then h + 1 else tn_an o h
theorem an_le (o : Nat → Int64) : ∀ h, tn_an o h ≤ h
  | 0 => Nat.le_refl _
  | h + 1 => by
    have := an_le o h
    unfold tn_an
    split <;> omega
def tn_rp (e : tEc) (hb u lim : Nat → Nat) (k : Nat) : Nat := tn_an (fun v => tn_ea e hb (va_up u k v) k) (lim k)
theorem s_reply (hV : tVe e) (hs : cSc e hb u lim held σ) {k : Nat} (hk : k < sn (eS e)) : tq (f_X0_reply (nI k) σ) (fun r σ' => r = nI (tn_rp e hb u lim k) ∧ (∀ v, v ≤ 3 → σ'.2 25 v = tn_ea e hb (va_up u k v) k) ∧ cSc e hb u lim held σ' ∧ tn_fr [(25, 999)] σ σ') := by
  have hn := hV.1.1
  unfold f_X0_reply
  refine tq_bd (s_weigh hV hs hk) (fun _ σ1 hq => ?_)
  obtain ⟨ho, hf⟩ := hq
  have hs1 := cSc_keep hV hs (hf.mono (by decide))
  have hl3 := hs.l3 hk
  have lp : ∀ d n h, h + d = lim k → d < n → F_X0_reply_9 n (nI k) (nI (tn_an (fun v => tn_ea e hb (va_up u k v) k) h)) (nI (h + 1)) σ1 = some (nI (tn_rp e hb u lim k), σ1) := by
    intro d
    induction d with
    | zero =>
      intro n h h1 h2
      obtain ⟨m, rfl⟩ : ∃ m, n = m + 1 := ⟨n - 1, by omega⟩
      have : h = lim k := by omega
      subst this
      rw [F_X0_reply_9, tn_ckn (by omega) (by decide), tn_xn (by omega), hs1.lm hk, if_pos (nI_lt (by omega) (by omega))]
      rfl
    | succ d ih =>
      intro n h h1 h2
      obtain ⟨m, rfl⟩ : ∃ m, n = m + 1 := ⟨n - 1, by omega⟩
      have ha := an_le (fun v => tn_ea e hb (va_up u k v) k) h
      rw [F_X0_reply_9, tn_ckn (by omega) (by decide), tn_xn (by omega), hs1.lm hk, if_neg (nI_nlt (by omega) (by omega)), tn_ckn (by omega) (by decide), tn_ckn (by omega) (by decide), tn_xn (by omega), tn_xn (by omega), ho _ (by omega), ho _ (by omega), nI_1]
      have hi := ih m (h + 1) (by omega) (by omega)
      unfold tn_an at hi
      by_cases c : tn_ea e hb (va_up u k (h + 1)) k ≤ tn_ea e hb (va_up u k (tn_an (fun v => tn_ea e hb (va_up u k v) k) h)) k
      · rw [if_pos c]
        rw [if_neg (Int64.not_lt.mpr c)] at hi
        exact hi
      · rw [if_neg c]
        rw [if_pos (Int64.not_le.mp c)] at hi
        exact hi
  have h0 := lp (lim k) tn_fuel 0 (by omega) (by unfold tn_fuel; omega)
  exact ⟨_, σ1, h0, rfl, ho, hs1, hf⟩
end EA
