/-! the first state -/
def ti_A : tA := (0, fun _ => 0, fun j => ([0, 3, 0, 0, 16, 0, 0, 0] : List Nat).getD j 0, fun _ => 0, fun _ => 0, fun _ => -1, fun _ => 0, fun _ _ => 0, 0)
def ti_σ : tn_M := (fun k => if k = 1 then (fun j => if j = 7 then -1 else 0) else if k = 6 then ti_s else if k = 26 then ti_f else if k = 33 then ti_f else if k = 41 then ti_m else fun _ => 0, fun _ _ => 0)
theorem first_S : tn_SA ti_A = tn_s0 := by
  show (tn_prs (aT ti_A) (aL ti_A)).2 = tn_s0
  have e : tn_prs (aT ti_A) (aL ti_A) = (-1, tn_s0) := if_pos rfl
  rw [e]
theorem first_W : tW ti_A := by
  refine ⟨by decide, by decide, fun k _ => by show (0 : Nat) ≤ 3; omega, fun e _ => by show (0 : Nat) ≤ 31; omega, fun s _ => Or.inl rfl, fun s _ => by show (0 : Nat) ≤ 60; omega⟩
theorem first_CI : CI ti_A ti_σ := by
  have e : tn_prs (aT ti_A) (aL ti_A) = (-1, tn_s0) := if_pos rfl
  refine ⟨⟨rfl, fun j hj => absurd hj (Nat.not_lt_zero j), by decide, fun k _ => rfl, fun e _ => rfl, by decide, fun s _ => rfl, fun s _ i hi => absurd hi (Nat.not_lt_zero i), rfl⟩, by rw [e]; rfl, ?_, Or.inr ⟨rfl, ?_⟩⟩
  · rw [first_S]
    exact ⟨rfl, rfl, fun k hk => absurd hk (Nat.not_lt_zero k), fun i hi => absurd hi (Nat.not_lt_zero i)⟩
  · rw [first_S]
    intro h B c h1 h3 hB hc
    rfl
theorem first_M0 : M0 ti_A ti_σ := by
  refine ⟨rfl, fun j hj => absurd hj (Nat.not_lt_zero j), by decide, fun k _ => rfl, fun e _ => rfl, by decide, fun s _ => rfl, fun s _ i hi => absurd hi (Nat.not_lt_zero i), rfl⟩
theorem law_ends {xs : Nat → Int32} {L : Nat} (hL : L ≤ 3072) : ∃ r σ', F_L_law_18 xs L tn_fuel 0 ti_σ = some (r, σ') := by
  obtain ⟨r, σ', e, _⟩ := law_loop (xs := xs) hL 512 tn_fuel 0 ti_A ti_σ (by omega) (by unfold tn_fuel; omega) (by omega) first_W first_CI first_M0
  exact ⟨r, σ', e⟩
