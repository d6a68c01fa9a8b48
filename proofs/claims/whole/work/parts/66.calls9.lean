/-! the calls: shop, lose, get -/
section DD
variable {A : tA} {σ : tn_M}
theorem c_shop (hA : tW A) (x y : Int32) : tn_P A A (f_X4_shop x y) (f_X5_shop x y) := by
  have hn := (tV_A A).1
  have t0 : (0 : Int32).toInt = 0 := rfl
  have t2 : (2 : Int32).toInt = 2 := rfl
  have hN := hN_ok
  have g2 := hA.2.1 2 (by omega)
  rcases shop_cases A x with c | ⟨k, hk, rfl, c⟩
  · refine ⟨-2, fun σ h => ?_, fun σ h => ?_⟩
    · unfold f_X4_shop
      rw [s_noShop h.2.2.1, tn_bds, if_neg c, if_neg (by decide)]
      exact tq_some ⟨rfl, h⟩
    · unfold f_X5_shop
      refine tq_bd (s_isShop hA h x) (fun r σ1 ⟨q1, _, q3⟩ => ?_)
      rw [q1, if_neg c, if_pos rfl]
      exact tq_some ⟨rfl, q3⟩
  · have h3 := (tV_A A).2.2.1 k hk
    by_cases d : 0 ≤ y.toInt ∧ y.toInt ≤ 2
    · have n1 : ¬ y < 0 := by rw [tn_lt32]; omega
      have n2 : y ≤ 2 := by rw [tn_le32]; omega
      refine ⟨if y = 0 then nI (sz (tn_SA A) k) else if y = 1 then nI (sc (tn_SA A) k) else if sz (tn_SA A) k ≤ aG A 2 then 0 else 1, fun σ h => ?_, fun σ h => ?_⟩
      · unfold f_X4_shop
        rw [s_noShop h.2.2.1, tn_bds, if_pos c, if_pos rfl, if_neg n1, if_pos n2, tn_ckn (by omega) (by decide), tn_xn (by omega), (h.2.2.1.2.2.1 k hk).1, (h.2.2.1.2.2.1 k hk).2, h.1.2.2.1 2 (by omega)]
        by_cases e0 : y = 0
        · rw [if_pos e0, if_pos e0]; exact tq_some ⟨rfl, h⟩
        · rw [if_neg e0, if_neg e0]
          by_cases e1 : y = 1
          · rw [if_pos e1, if_pos e1, tn_ckn (by omega) (by decide)]; exact tq_some ⟨rfl, h⟩
          · rw [if_neg e1, if_neg e1, tn_ckn (by omega) (by decide)]
            refine tq_lt (tq_some ⟨?_, h⟩)
            by_cases f : sz (tn_SA A) k ≤ aG A 2
            · rw [if_pos f, if_pos (nI_le f (by omega))]
            · rw [if_neg f, if_neg (nI_ge (by omega) (by omega))]
      · unfold f_X5_shop
        refine tq_bd (s_isShop hA h _) (fun r σ1 ⟨q1, q2, q3⟩ => ?_)
        rw [q1, if_pos c, if_neg (by decide), tn_inI _ _ _ σ1 (a := 0) (b := 2) rfl rfl, tn_bds, if_neg (by rw [if_pos d]; decide), tn_ckn (by omega) (by decide), tn_xn (by omega), (q2.2.2.1 k hk).1, (q2.2.2.1 k hk).2]
        by_cases e0 : y = 0
        · rw [if_pos e0, if_pos e0]; exact tq_some ⟨rfl, q3⟩
        · rw [if_neg e0, if_neg e0]
          by_cases e1 : y = 1
          · rw [if_pos e1, if_pos e1, tn_ckn (by omega) (by decide)]; exact tq_some ⟨rfl, q3⟩
          · rw [if_neg e1, if_neg e1]
            have eb : f_X5_isBound (nI k) σ1 = some (if sz (tn_SA A) k ≤ aG A 2 then 0 else 1, σ1) := by
              unfold f_X5_isBound
              rw [tn_ckn (by omega) (by decide), tn_xn (by omega), (q2.2.2.1 k hk).1, q3.2.2.1 2 (by omega)]
              unfold tn_lt
              by_cases f : sz (tn_SA A) k ≤ aG A 2
              · rw [if_pos f, if_pos (nI_le f (by omega))]; rfl
              · rw [if_neg f, if_neg (nI_ge (by omega) (by omega))]; rfl
            rw [eb, tn_bds]
            by_cases f : sz (tn_SA A) k ≤ aG A 2
            · rw [if_pos f, if_pos rfl]; exact tq_some ⟨rfl, q3⟩
            · rw [if_neg f, if_neg (by decide)]; exact tq_some ⟨rfl, q3⟩
    · refine ⟨-2, fun σ h => ?_, fun σ h => ?_⟩
      · unfold f_X4_shop
        rw [s_noShop h.2.2.1, tn_bds, if_pos c, if_pos rfl]
        by_cases f : y < 0
        · rw [if_pos f]; exact tq_some ⟨rfl, h⟩
        · rw [if_neg f, if_neg (by rw [tn_lt32] at f; rw [tn_le32]; omega)]; exact tq_some ⟨rfl, h⟩
      · unfold f_X5_shop
        refine tq_bd (s_isShop hA h _) (fun r σ1 ⟨q1, q2, q3⟩ => ?_)
        rw [q1, if_pos c, if_neg (by decide), tn_inI _ _ _ σ1 (a := 0) (b := 2) rfl rfl, tn_bds, if_pos (by rw [if_neg d])]
        exact tq_some ⟨rfl, q3⟩
end DD
