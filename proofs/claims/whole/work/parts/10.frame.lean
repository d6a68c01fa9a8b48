/-! The world of both objects: 49 cells of a fixed shape. What changes is their ints and longs: a memory σ. -/
/-- the words that hold in every frame -/
def tn_T : List Cond := lw_tbl.filter goodWord
theorem tn_in (i : Nat) {w : Cond} (h : lw_tbl[i]? = some w) (hg : goodWord w = true) : w ∈ tn_T := List.mem_filter.mpr ⟨List.mem_of_getElem? h, hg⟩
abbrev tn_M : Type := (Nat → Nat → Int32) × (Nat → Nat → Int64)
def tn_si (σ : tn_M) (k j : Nat) (v : Int32) : tn_M := (fun a => if a = k then upd (σ.1 k) j v else σ.1 a, σ.2)
def tn_sl (σ : tn_M) (k j : Nat) (v : Int64) : tn_M := (σ.1, fun a => if a = k then vp_updL (σ.2 k) j v else σ.2 a)
def tn_cp (σ : tn_M) (ks kd sp dp n : Nat) : tn_M := (fun a => if a = kd then va_cpy (σ.1 ks) (σ.1 kd) sp dp n else σ.1 a, σ.2)
def tn_x (i : Int32) : Nat := i.toNatClampNeg
/-- addresses, classes, the classes of int[], long[], int[][], the address of HIGHEST -/
abbrev tn_E : Type := (Nat → Nat) × va_G × ClassId × ClassId × ClassId × Nat
def tn_ad (E : tn_E) (k : Nat) : Nat := E.1 k
abbrev classes : List vw_C := [(RX0, TX0, 13), (RX1, TX1, 4), (RX2, TX2, 9), (RX3, TX3, 2), (RX4, TX4, 7), (RX5, TX5, 27)]
def tn_kds : List Nat := [0,0,0,0,0,0, 1,1,1, 1,1,1,3,1,1,1,1,1,1, 2, 1,1,1,1,1,2, 1,1,3,1,1,1,1, 1,1,1,1,1,1,1,1,1,1,1,1,1,1,2,1]
def tn_lens : List Nat := [0,0,0,0,0,0, 8,5,6, 150,5,5,6,6,6,6,6,6,6, 672, 5,5,4,5,4,4, 4,4,4,60,60,60,60, 4,4,240,60,150,5,5,36,8,5,6,5,4,5,5,5]
def tn_kd (k : Nat) : Nat := tn_kds.getD k 0
def tn_len (k : Nat) : Nat := tn_lens.getD k 0
def tn_fs (E : tn_E) (σ : tn_M) : Nat → Nat × List Value
  | 0 => (4, [.ref (tn_ad E 1), .ref (tn_ad E 2), .ref (tn_ad E 3), .ref (tn_ad E 4), .ref (tn_ad E 6), .ref (tn_ad E 7), .ref (tn_ad E 8)])
  | 1 => (2, [.ref (tn_ad E 9), .ref (tn_ad E 10), .ref (tn_ad E 11), .ref (tn_ad E 12), .int (σ.1 1 4), .int (σ.1 1 5), .int (σ.1 1 6), .int (σ.1 1 7), .int (σ.1 1 8)])
  | 2 => (3, [.ref (tn_ad E 19), .int (σ.1 2 1)])
  | 3 => (0, [.ref (tn_ad E 1), .ref (tn_ad E 2), .ref (tn_ad E 20), .ref (tn_ad E 21), .ref (tn_ad E 22), .ref (tn_ad E 23), .ref (tn_ad E 24), .ref (tn_ad E 25), .int (σ.1 3 8), .int (σ.1 3 9), .long (σ.2 3 10), .int (σ.1 3 11), .int (σ.1 3 12)])
  | 4 => (1, [.ref (tn_ad E 26), .ref (tn_ad E 27), .ref (tn_ad E 28), .int (σ.1 4 3)])
  | a => (5, [.ref (tn_ad E 33), .ref (tn_ad E 34), .ref (tn_ad E 35), .ref (tn_ad E 36), .int (σ.1 a 4), .ref (tn_ad E 37), .int (σ.1 a 6), .int (σ.1 a 7), .int (σ.1 a 8), .ref (tn_ad E 38), .ref (tn_ad E 39), .int (σ.1 a 11), .ref (tn_ad E 40), .ref (tn_ad E 41), .ref (tn_ad E 42), .ref (tn_ad E 43), .ref (tn_ad E 44), .ref (tn_ad E 45), .int (σ.1 a 18), .int (σ.1 a 19), .int (σ.1 a 20), .ref (tn_ad E 46), .ref (tn_ad E 47), .long (σ.2 a 23), .int (σ.1 a 24), .long (σ.2 a 25), .ref (tn_ad E 48)])
def tn_cell (E : tn_E) (σ : tn_M) (k : Nat) : va_E := match tn_kd k with
  | 0 => .inr (tn_fs E σ k)
  | 1 => .inl (E.2.2.1, tn_len k, .inl (σ.1 k))
  | 2 => .inl (E.2.2.2.1, tn_len k, .inr (.inl (σ.2 k)))
  | _ => .inl (E.2.2.2.2.1, tn_len k, .inr (.inr (.inr (.inr (fun i => some (tn_ad E (k + 1 + i)))))))
def tn_ws (E : tn_E) (σ : tn_M) : va_W := (List.range 49).map fun k => (tn_ad E k, tn_cell E σ k)
def tn_tys (E : tn_E) : List (ClassId × FieldType) := [(E.2.2.1, .int), (E.2.2.2.1, .long), (E.2.2.2.2.1, .array .int)]
def tn_A (E : tn_E) : Nat → Prop := fun q => ∃ k, k < 49 ∧ q = tn_ad E k
def tn_hi (j : Nat) : Int32 := ([16, 3, 3, 999, 16, 8, 8, 8] : List Int32).getD j 0
def tn_Z (E : tn_E) (A : Nat → Prop) (U : State) (H : Heap) : Prop := va_Z RX4 "HIGHEST" "[I" (.ref E.2.2.2.2.2) A U H ∧ va_T .int E.2.2.2.2.2 8 (fun j => .int (tn_hi j)) A U H ∧ va_Nw (.methodLinkNest RX0 132 yX4_ceiling RX4) U
/-- a state in which the world holds σ -/
def tn_St (E : tn_E) (σ : tn_M) (U : State) : Prop := va_P E.2.1 classes (tn_ws E σ) U.heap ∧ va_K E.2.1 classes (tn_tys E) U ∧ (∀ i j, i < 49 → j < 49 → tn_ad E i = tn_ad E j → i = j) ∧ tn_Z E (tn_A E) U U.heap
theorem tn_ws_at {E : tn_E} {σ : tn_M} {k : Nat} (hk : k < 49) : (tn_ws E σ)[k]? = some (tn_ad E k, tn_cell E σ k) := by
  simp [tn_ws, hk]
theorem tn_fs_same {E : tn_E} {σ σ' : tn_M} {a : Nat} (h1 : σ'.1 a = σ.1 a) (h2 : σ'.2 a = σ.2 a) : tn_fs E σ' a = tn_fs E σ a := by
  unfold tn_fs
  split <;> simp [h1, h2]
theorem tn_cell_same {E : tn_E} {σ σ' : tn_M} {a : Nat} (h1 : σ'.1 a = σ.1 a) (h2 : σ'.2 a = σ.2 a) : tn_cell E σ' a = tn_cell E σ a := by
  unfold tn_cell
  rw [tn_fs_same h1 h2, h1, h2]
theorem tn_ws_set {E : tn_E} {σ σ' : tn_M} {k : Nat} {c : va_E} (hc : tn_cell E σ' k = c) (ho : ∀ a, a ≠ k → σ'.1 a = σ.1 a ∧ σ'.2 a = σ.2 a) : (tn_ws E σ).set k (tn_ad E k, c) = tn_ws E σ' := by
  apply List.ext_getElem?
  intro j
  by_cases hj : j < 49
  · rw [tn_ws_at hj]
    by_cases e : j = k
    · subst e
      rw [List.getElem?_set_self (by simp [tn_ws, hj]), hc]
    · rw [List.getElem?_set_ne (Ne.symm e), tn_ws_at hj, tn_cell_same (ho j e).1 (ho j e).2]
  · have h1 : ((tn_ws E σ).set k (tn_ad E k, c)).length ≤ j := by simp [tn_ws]; omega
    have h2 : (tn_ws E σ').length ≤ j := by simp [tn_ws]; omega
    rw [List.getElem?_eq_none h1, List.getElem?_eq_none h2]
theorem tn_cell_o {E : tn_E} {σ : tn_M} {k : Nat} (hk : tn_kd k = 0) : tn_cell E σ k = .inr (tn_fs E σ k) := by unfold tn_cell; rw [hk]; rfl
theorem tn_cell_i {E : tn_E} {σ : tn_M} {k : Nat} (hk : tn_kd k = 1) : tn_cell E σ k = .inl (E.2.2.1, tn_len k, .inl (σ.1 k)) := by unfold tn_cell; rw [hk]; rfl
theorem tn_cell_l {E : tn_E} {σ : tn_M} {k : Nat} (hk : tn_kd k = 2) : tn_cell E σ k = .inl (E.2.2.2.1, tn_len k, .inr (.inl (σ.2 k))) := by unfold tn_cell; rw [hk]; rfl
theorem tn_cell_r {E : tn_E} {σ : tn_M} {k : Nat} (hk : tn_kd k = 3) : tn_cell E σ k = .inl (E.2.2.2.2.1, tn_len k, .inr (.inr (.inr (.inr (fun i => some (tn_ad E (k + 1 + i))))))) := by unfold tn_cell; rw [hk]; rfl
theorem tn_kd_lt {k c : Nat} (h : tn_kd k = c + 1) : k < 49 := by
  apply Decidable.byContradiction
  intro hk
  have : tn_kd k = 0 := by unfold tn_kd; rw [List.getD_eq_getElem?_getD, List.getElem?_eq_none (by simp [tn_kds]; omega)]; rfl
  omega
theorem tn_ws_i {E : tn_E} {σ : tn_M} {k : Nat} (h : tn_kd k = 1) : (tn_ws E σ)[k]? = some (tn_ad E k, .inl (E.2.2.1, tn_len k, .inl (σ.1 k))) := by rw [tn_ws_at (tn_kd_lt h), tn_cell_i h]
theorem tn_ws_l {E : tn_E} {σ : tn_M} {k : Nat} (h : tn_kd k = 2) : (tn_ws E σ)[k]? = some (tn_ad E k, .inl (E.2.2.2.1, tn_len k, .inr (.inl (σ.2 k)))) := by rw [tn_ws_at (tn_kd_lt h), tn_cell_l h]
theorem tn_ws_r {E : tn_E} {σ : tn_M} {k : Nat} (h : tn_kd k = 3) : (tn_ws E σ)[k]? = some (tn_ad E k, .inl (E.2.2.2.2.1, tn_len k, .inr (.inr (.inr (.inr (fun i => some (tn_ad E (k + 1 + i)))))))) := by rw [tn_ws_at (tn_kd_lt h), tn_cell_r h]
theorem tn_ws_o {E : tn_E} {σ : tn_M} {k : Nat} (hk : k < 6) : (tn_ws E σ)[k]? = some (tn_ad E k, .inr (tn_fs E σ k)) := by
  have h : tn_kd k = 0 := by
    rcases (by omega : k = 0 ∨ k = 1 ∨ k = 2 ∨ k = 3 ∨ k = 4 ∨ k = 5) with rfl | rfl | rfl | rfl | rfl | rfl <;> rfl
  rw [tn_ws_at (by omega), tn_cell_o h]
theorem tn_ws_D {E : tn_E} {σ : tn_M} {A : Nat → Prop} (hi : ∀ i j, i < 49 → j < 49 → tn_ad E i = tn_ad E j → i = j) (hA : ∀ k, k < 49 → A (tn_ad E k)) : va_D A (tn_ws E σ) := by
  have key : ∀ (k : Nat) (q : Nat × va_E), (tn_ws E σ)[k]? = some q → k < 49 ∧ q.1 = tn_ad E k := by
    intro k q hq
    have hk : k < 49 := by
      have := (List.getElem?_eq_some_iff.mp hq).1
      simpa [tn_ws] using this
    rw [tn_ws_at hk] at hq
    cases hq
    exact ⟨hk, rfl⟩
  refine ⟨fun i j x y hx hy e => ?_, fun k q hq => ?_⟩
  · obtain ⟨a1, a2⟩ := key i x hx
    obtain ⟨b1, b2⟩ := key j y hy
    exact hi i j a1 b1 (by rw [← a2, ← b2, e])
  · obtain ⟨a1, a2⟩ := key k q hq
    rw [a2]
    exact hA k a1
theorem tn_si_ne {σ : tn_M} {k j : Nat} {v : Int32} : ∀ a, a ≠ k → (tn_si σ k j v).1 a = σ.1 a ∧ (tn_si σ k j v).2 a = σ.2 a := fun a h => ⟨if_neg h, rfl⟩
theorem tn_sl_ne {σ : tn_M} {k j : Nat} {v : Int64} : ∀ a, a ≠ k → (tn_sl σ k j v).1 a = σ.1 a ∧ (tn_sl σ k j v).2 a = σ.2 a := fun a h => ⟨rfl, if_neg h⟩
theorem tn_cp_ne {σ : tn_M} {ks k sp dp n : Nat} : ∀ a, a ≠ k → (tn_cp σ ks k sp dp n).1 a = σ.1 a ∧ (tn_cp σ ks k sp dp n).2 a = σ.2 a := fun a h => ⟨if_neg h, rfl⟩
theorem tn_si_1 (σ : tn_M) (k j : Nat) (v : Int32) (a b : Nat) : (tn_si σ k j v).1 a b = if a = k ∧ b = j then v else σ.1 a b := by
  unfold tn_si upd
  by_cases h : a = k
  · subst h
    by_cases h2 : b = j <;> simp [h2]
  · simp [h]
theorem tn_sl_2 (σ : tn_M) (k j : Nat) (v : Int64) (a b : Nat) : (tn_sl σ k j v).2 a b = if a = k ∧ b = j then v else σ.2 a b := by
  unfold tn_sl vp_updL
  by_cases h : a = k
  · subst h
    by_cases h2 : b = j <;> simp [h2]
  · simp [h]
theorem tn_si_2 (σ : tn_M) (k j : Nat) (v : Int32) : (tn_si σ k j v).2 = σ.2 := rfl
theorem tn_sl_1 (σ : tn_M) (k j : Nat) (v : Int64) : (tn_sl σ k j v).1 = σ.1 := rfl
theorem tn_cp_1 (σ : tn_M) (ks kd sp dp n a b : Nat) : (tn_cp σ ks kd sp dp n).1 a b = if a = kd ∧ dp ≤ b ∧ b < dp + n then σ.1 ks (sp + (b - dp)) else σ.1 a b := by
  unfold tn_cp va_cpy
  by_cases h : a = kd
  · subst h
    by_cases h2 : dp ≤ b ∧ b < dp + n <;> simp [h2]
  · simp [h]
theorem tn_cp_2 (σ : tn_M) (ks kd sp dp n : Nat) : (tn_cp σ ks kd sp dp n).2 = σ.2 := rfl
theorem tn_rowB {i : Int32} (h : i < 0 ∨ 6 ≤ i.toNatClampNeg → False) : tn_kd (12 + 1 + tn_x i) = 1 ∧ tn_len (12 + 1 + tn_x i) = 6 := by
  have hl : tn_x i < 6 := Nat.not_le.mp fun q => h (Or.inr q)
  generalize tn_x i = j at hl
  rcases (by omega : j = 0 ∨ j = 1 ∨ j = 2 ∨ j = 3 ∨ j = 4 ∨ j = 5) with rfl | rfl | rfl | rfl | rfl | rfl <;> exact ⟨rfl, rfl⟩
theorem tn_rowI {i : Int32} (h : i < 0 ∨ 4 ≤ i.toNatClampNeg → False) : tn_kd (28 + 1 + tn_x i) = 1 ∧ tn_len (28 + 1 + tn_x i) = 60 := by
  have hl : tn_x i < 4 := Nat.not_le.mp fun q => h (Or.inr q)
  generalize tn_x i = j at hl
  rcases (by omega : j = 0 ∨ j = 1 ∨ j = 2 ∨ j = 3) with rfl | rfl | rfl | rfl <;> exact ⟨rfl, rfl⟩
/-! a run of a method, as the rows see it: G holds what the machine's judgement W has -/
abbrev tn_G : Type := Program × Launch × Env × Room × State × MethodId × Array Value × List Frame × Method × Code × Nat × Nat × Nat × (Nat → Prop) × (Option Value → tn_M → State → Prop)
abbrev tg_p (G : tn_G) : Program := G.1
abbrev tg_l (G : tn_G) : Launch := G.2.1
abbrev tg_e (G : tn_G) : Env := G.2.2.1
abbrev tg_R (G : tn_G) : Room := G.2.2.2.1
abbrev tg_s (G : tn_G) : State := G.2.2.2.2.1
abbrev tg_m (G : tn_G) : MethodId := G.2.2.2.2.2.1
abbrev tg_a (G : tn_G) : Array Value := G.2.2.2.2.2.2.1
abbrev tg_b (G : tn_G) : List Frame := G.2.2.2.2.2.2.2.1
abbrev tg_h (G : tn_G) : Method := G.2.2.2.2.2.2.2.2.1
abbrev tg_c (G : tn_G) : Code := G.2.2.2.2.2.2.2.2.2.1
abbrev tg_k (G : tn_G) : Nat := G.2.2.2.2.2.2.2.2.2.2.1
abbrev tg_z (G : tn_G) : Nat := G.2.2.2.2.2.2.2.2.2.2.2.1
abbrev tg_n (G : tn_G) : Nat := G.2.2.2.2.2.2.2.2.2.2.2.2.1
abbrev tg_A (G : tn_G) : Nat → Prop := G.2.2.2.2.2.2.2.2.2.2.2.2.2.1
abbrev tg_Q (G : tn_G) : Option Value → tn_M → State → Prop := G.2.2.2.2.2.2.2.2.2.2.2.2.2.2
def tg_W (G : tn_G) (H : Heap) (locs : List Loc) (Q : State → Prop) (g : JFrame) : Prop := W (tg_p G) (tg_l G) (tg_e G) (tg_R G) (tg_s G) (tg_m G) (tg_a G) (tg_b G) (tg_h G) (tg_c G) H locs (tg_k G) (tg_z G) Q g
def tn_Ok (E : tn_E) (G : tn_G) (cc : ByteArray) (own : String) (nL : Nat) (R : Room) : Prop :=
  (tg_p G).tables.exec = Jvm.exec ∧ (tg_c G).code = cc ∧ (tg_c G).maxLocals = nL ∧ tg_n G = nL ∧ (tg_s G).vm.findClass own = some (tg_m G).cls ∧ (∀ w ∈ tn_T, w.before (tg_a G) (tg_s G) = true) ∧ va_K E.2.1 classes (tn_tys E) (tg_s G) ∧ (∀ i j, i < 49 → j < 49 → tn_ad E i = tn_ad E j → i = j) ∧ (∀ k, k < 49 → tg_A G (tn_ad E k)) ∧ tn_Z E (tg_A G) (tg_s G) (tg_s G).heap ∧ tg_R G = R ∧ (tg_k G ≤ R.cells ∧ tg_z G ≤ R.slots)
section TNO
variable {E : tn_E} {G : tn_G} {cc : ByteArray} {own : String} {nL : Nat} {R : Room}
theorem tn_Ok.ex (g : tn_Ok E G cc own nL R) : (tg_p G).tables.exec = Jvm.exec := g.1
theorem tn_Ok.by (g : tn_Ok E G cc own nL R) : (tg_c G).code = cc := g.2.1
theorem tn_Ok.ml (g : tn_Ok E G cc own nL R) : (tg_c G).maxLocals = nL := g.2.2.1
theorem tn_Ok.nl (g : tn_Ok E G cc own nL R) : tg_n G = nL := g.2.2.2.1
theorem tn_Ok.ow (g : tn_Ok E G cc own nL R) : (tg_s G).vm.findClass own = some (tg_m G).cls := g.2.2.2.2.1
theorem tn_Ok.ts (g : tn_Ok E G cc own nL R) : ∀ w ∈ tn_T, w.before (tg_a G) (tg_s G) = true := g.2.2.2.2.2.1
theorem tn_Ok.K (g : tn_Ok E G cc own nL R) : va_K E.2.1 classes (tn_tys E) (tg_s G) := g.2.2.2.2.2.2.1
theorem tn_Ok.inj (g : tn_Ok E G cc own nL R) : ∀ i j, i < 49 → j < 49 → tn_ad E i = tn_ad E j → i = j := g.2.2.2.2.2.2.2.1
theorem tn_Ok.A (g : tn_Ok E G cc own nL R) : ∀ k, k < 49 → tg_A G (tn_ad E k) := g.2.2.2.2.2.2.2.2.1
theorem tn_Ok.Z (g : tn_Ok E G cc own nL R) : tn_Z E (tg_A G) (tg_s G) (tg_s G).heap := g.2.2.2.2.2.2.2.2.2.1
theorem tn_Ok.rm (g : tn_Ok E G cc own nL R) : tg_R G = R := g.2.2.2.2.2.2.2.2.2.2.1
theorem tn_Ok.D (g : tn_Ok E G cc own nL R) (σ : tn_M) : va_D (tg_A G) (tn_ws E σ) := tn_ws_D g.inj g.A
end TNO
/-- from here on, if the pure run ends with r and σ', the machine comes to where the method's end with them is -/
def tn_V (E : tn_E) (G : tn_G) {ρ : Type} (enc : ρ → Option Value) (pc : Nat) (lv : List (Nat × Value)) (st : List Value) (σ : tn_M) (res : Option (ρ × tn_M)) : Prop :=
  ∀ (H : Heap) (locs : List Loc) (ls : Array Slot), va_P E.2.1 classes (tn_ws E σ) H → va_S (tg_A G) (tg_s G).heap H locs → lv_has ls (tg_n G) lv → ∀ (r : ρ) (σ' : tn_M), res = some (r, σ') → tg_W G H locs (tg_Q G (enc r) σ') (F0 (tg_m G) pc ls st)
def tn_ck {α : Type} (i : Int32) (n : Nat) (r : Option α) : Option α := if i < 0 ∨ n ≤ i.toNatClampNeg then none else r
def tn_dz {α : Type} (y : Int32) (r : Option α) : Option α := if y = 0 then none else r
def tn_dzl {α : Type} (y : Int64) (r : Option α) : Option α := if y = 0 then none else r
def tn_bd {α β : Type} (o : Option (α × tn_M)) (k : α → tn_M → Option β) : Option β := match o with
  | none => none
  | some q => k q.1 q.2
def tn_lt {α β : Type} (v : α) (k : α → β) : β := k v
def tn_zr (v : Int32) (σ : tn_M) : Option (Int32 × tn_M) := if v = 0 ∨ v = 1 then some (v, σ) else none
def tn_ie (r : Int32) : Option Value := some (.int r)
def tn_le (r : Int64) : Option Value := some (.long r)
def tn_ve (_ : Unit) : Option Value := none
def tn_re (a : Nat) (_ : Unit) : Option Value := some (.ref a)
section TNR
variable {E : tn_E} {G : tn_G} {cc : ByteArray} {own : String} {nL : Nat} {R : Room} {ρ : Type} {enc : ρ → Option Value} {pc : Nat} {lv : List (Nat × Value)} {st : List Value} {σ : tn_M} {res : Option (ρ × tn_M)}
theorem tr_none : tn_V E G enc pc lv st σ none := fun _ _ _ _ _ _ _ _ h => by cases h
theorem tr_sub (ks : List Nat) {lv' : List (Nat × Value)} (hl : lv_pick lv ks = lv') (k : tn_V E G enc pc lv' st σ res) : tn_V E G enc pc lv st σ res := fun H locs ls hP hS h r σ' hr => k H locs ls hP hS (lv_sub h ks hl) r σ' hr
theorem tr_to {lv' : List (Nat × Value)} {st' : List Value} {σ' : tn_M} {res' : Option (ρ × tn_M)} (k : tn_V E G enc pc lv' st' σ' res') (h1 : lv' = lv) (h2 : st' = st) (h3 : σ' = σ) (h4 : res' = res) : tn_V E G enc pc lv st σ res := by subst h1; subst h2; subst h3; subst h4; exact k
theorem tr_lti {v : Int32} {kk : Int32 → Option (ρ × tn_M)} (k : ∀ x, tn_V E G enc pc lv (.int x :: st) σ (kk x)) : tn_V E G enc pc lv (.int v :: st) σ (tn_lt v kk) := k v
theorem tr_ltl {v : Int64} {kk : Int64 → Option (ρ × tn_M)} (k : ∀ x, tn_V E G enc pc lv (.long x :: st) σ (kk x)) : tn_V E G enc pc lv (.long v :: st) σ (tn_lt v kk) := k v

theorem tr_iconst (g : tn_Ok E G cc own nL R) {i : Int} {v : Int32} (n : Nat) (hd : decode cc pc = .ok (.iconst i, 1)) (hn : pc + 1 = n) (hv : Int32.ofInt i = v) (k : tn_V E G enc n lv (.int v :: st) σ res) : tn_V E G enc pc lv (st) σ res := by
  subst hn
  exact fun H locs ls hP hS hl r σ' hr => lv_iconst g.ex g.by hd hv (k H locs ls hP hS hl r σ' hr)
theorem tr_bipush (g : tn_Ok E G cc own nL R) {i : Int} {v : Int32} (n : Nat) (hd : decode cc pc = .ok (.bipush i, 2)) (hn : pc + 2 = n) (hv : (Int8.ofInt i).toInt32 = v) (k : tn_V E G enc n lv (.int v :: st) σ res) : tn_V E G enc pc lv (st) σ res := by
  subst hn
  exact fun H locs ls hP hS hl r σ' hr => lv_bipush g.ex g.by hd hv (k H locs ls hP hS hl r σ' hr)
theorem tr_sipush (g : tn_Ok E G cc own nL R) {i : Int} {v : Int32} (n : Nat) (hd : decode cc pc = .ok (.sipush i, 3)) (hn : pc + 3 = n) (hv : (Int16.ofInt i).toInt32 = v) (k : tn_V E G enc n lv (.int v :: st) σ res) : tn_V E G enc pc lv (st) σ res := by
  subst hn
  exact fun H locs ls hP hS hl r σ' hr => lv_sipush g.ex g.by hd hv (k H locs ls hP hS hl r σ' hr)
theorem tr_lconst (g : tn_Ok E G cc own nL R) {i : Fin 2} {v : Int64} (n : Nat) (hd : decode cc pc = .ok (.lconst i, 1)) (hn : pc + 1 = n) (hv : Int64.ofNat (i : Nat) = v) (k : tn_V E G enc n lv (.long v :: st) σ res) : tn_V E G enc pc lv (st) σ res := by
  subst hn
  exact fun H locs ls hP hS hl r σ' hr => lv_lconst g.ex g.by hd hv (k H locs ls hP hS hl r σ' hr)
theorem tr_iload_n (g : tn_Ok E G cc own nL R) {i : Fin 4} {j : Nat} {x : Int32} (q : Nat) (n : Nat) (hd : decode cc pc = .ok (.iload_n i, 1)) (hn : pc + 1 = n) (hi : (i : Nat) = j) (hq : lv[q]? = some (j, .int x)) (k : tn_V E G enc n lv (.int x :: st) σ res) : tn_V E G enc pc lv (st) σ res := by
  subst hn
  exact fun H locs ls hP hS hl r σ' hr => lv_iload_n g.ex g.by hd hi (lv_at hl q hq) (k H locs ls hP hS hl r σ' hr)
theorem tr_iload (g : tn_Ok E G cc own nL R) {j : Nat} {x : Int32} (q : Nat) (n : Nat) (hd : decode cc pc = .ok (.iload j, 2)) (hn : pc + 2 = n) (hq : lv[q]? = some (j, .int x)) (k : tn_V E G enc n lv (.int x :: st) σ res) : tn_V E G enc pc lv (st) σ res := by
  subst hn
  exact fun H locs ls hP hS hl r σ' hr => lv_iload g.ex g.by hd (lv_at hl q hq) (k H locs ls hP hS hl r σ' hr)
theorem tr_lload_n (g : tn_Ok E G cc own nL R) {i : Fin 4} {j : Nat} {x : Int64} (q : Nat) (n : Nat) (hd : decode cc pc = .ok (.lload_n i, 1)) (hn : pc + 1 = n) (hi : (i : Nat) = j) (hq : lv[q]? = some (j, .long x)) (k : tn_V E G enc n lv (.long x :: st) σ res) : tn_V E G enc pc lv (st) σ res := by
  subst hn
  exact fun H locs ls hP hS hl r σ' hr => lv_lload_n g.ex g.by hd hi (lv_at hl q hq) (k H locs ls hP hS hl r σ' hr)
theorem tr_lload (g : tn_Ok E G cc own nL R) {j : Nat} {x : Int64} (q : Nat) (n : Nat) (hd : decode cc pc = .ok (.lload j, 2)) (hn : pc + 2 = n) (hq : lv[q]? = some (j, .long x)) (k : tn_V E G enc n lv (.long x :: st) σ res) : tn_V E G enc pc lv (st) σ res := by
  subst hn
  exact fun H locs ls hP hS hl r σ' hr => lv_lload g.ex g.by hd (lv_at hl q hq) (k H locs ls hP hS hl r σ' hr)
theorem tr_aload_n (g : tn_Ok E G cc own nL R) {i : Fin 4} {j : Nat} {x : Nat} (q : Nat) (n : Nat) (hd : decode cc pc = .ok (.aload_n i, 1)) (hn : pc + 1 = n) (hi : (i : Nat) = j) (hq : lv[q]? = some (j, .ref x)) (k : tn_V E G enc n lv (.ref x :: st) σ res) : tn_V E G enc pc lv (st) σ res := by
  subst hn
  exact fun H locs ls hP hS hl r σ' hr => lv_aload_n g.ex g.by hd hi (lv_at hl q hq) (k H locs ls hP hS hl r σ' hr)
theorem tr_aload (g : tn_Ok E G cc own nL R) {j : Nat} {x : Nat} (q : Nat) (n : Nat) (hd : decode cc pc = .ok (.aload j, 2)) (hn : pc + 2 = n) (hq : lv[q]? = some (j, .ref x)) (k : tn_V E G enc n lv (.ref x :: st) σ res) : tn_V E G enc pc lv (st) σ res := by
  subst hn
  exact fun H locs ls hP hS hl r σ' hr => lv_aload g.ex g.by hd (lv_at hl q hq) (k H locs ls hP hS hl r σ' hr)
theorem tr_istore_n (g : tn_Ok E G cc own nL R) {j : Fin 4} {i : Nat} {x : Int32} {lv' : List (Nat × Value)} (n : Nat) (hd : decode cc pc = .ok (.istore_n j, 1)) (hn : pc + 1 = n) (hi : (j : Nat) = i) (hu : i < nL) (hl0 : (i, Value.int x) :: lv.filter (fun q => !(q.1 == i) && !(q.1 + 1 == i && q.2.category == 2)) = lv') (k : tn_V E G enc n lv' st σ res) : tn_V E G enc pc lv (.int x :: st) σ res := by
  subst hn
  exact fun H locs ls hP hS hl r σ' hr => lv_istore_n g.ex g.by hd hi hl (by rw [g.nl]; exact hu) hl0 (fun ls2 hl2 => k H locs ls2 hP hS hl2 r σ' hr)
theorem tr_istore (g : tn_Ok E G cc own nL R) {i : Nat} {x : Int32} {lv' : List (Nat × Value)} (n : Nat) (hd : decode cc pc = .ok (.istore i, 2)) (hn : pc + 2 = n) (hu : i < nL) (hl0 : (i, Value.int x) :: lv.filter (fun q => !(q.1 == i) && !(q.1 + 1 == i && q.2.category == 2)) = lv') (k : tn_V E G enc n lv' st σ res) : tn_V E G enc pc lv (.int x :: st) σ res := by
  subst hn
  exact fun H locs ls hP hS hl r σ' hr => lv_istore g.ex g.by hd hl (by rw [g.nl]; exact hu) hl0 (fun ls2 hl2 => k H locs ls2 hP hS hl2 r σ' hr)
theorem tr_lstore_n (g : tn_Ok E G cc own nL R) {j : Fin 4} {i : Nat} {x : Int64} {lv' : List (Nat × Value)} (n : Nat) (hd : decode cc pc = .ok (.lstore_n j, 1)) (hn : pc + 1 = n) (hi : (j : Nat) = i) (hu : i + 1 < nL) (hl0 : (i, Value.long x) :: lv.filter (fun q => !(q.1 == i) && (!(q.1 == i + 1) && !(q.1 + 1 == i && q.2.category == 2))) = lv') (k : tn_V E G enc n lv' st σ res) : tn_V E G enc pc lv (.long x :: st) σ res := by
  subst hn
  exact fun H locs ls hP hS hl r σ' hr => lv_lstore_n g.ex g.by hd hi hl (by rw [g.nl]; exact hu) hl0 (fun ls2 hl2 => k H locs ls2 hP hS hl2 r σ' hr)
theorem tr_lstore (g : tn_Ok E G cc own nL R) {i : Nat} {x : Int64} {lv' : List (Nat × Value)} (n : Nat) (hd : decode cc pc = .ok (.lstore i, 2)) (hn : pc + 2 = n) (hu : i + 1 < nL) (hl0 : (i, Value.long x) :: lv.filter (fun q => !(q.1 == i) && (!(q.1 == i + 1) && !(q.1 + 1 == i && q.2.category == 2))) = lv') (k : tn_V E G enc n lv' st σ res) : tn_V E G enc pc lv (.long x :: st) σ res := by
  subst hn
  exact fun H locs ls hP hS hl r σ' hr => lv_lstore g.ex g.by hd hl (by rw [g.nl]; exact hu) hl0 (fun ls2 hl2 => k H locs ls2 hP hS hl2 r σ' hr)
theorem tr_astore_n (g : tn_Ok E G cc own nL R) {j : Fin 4} {i : Nat} {x : Nat} {lv' : List (Nat × Value)} (n : Nat) (hd : decode cc pc = .ok (.astore_n j, 1)) (hn : pc + 1 = n) (hi : (j : Nat) = i) (hu : i < nL) (hl0 : (i, Value.ref x) :: lv.filter (fun q => !(q.1 == i) && !(q.1 + 1 == i && q.2.category == 2)) = lv') (k : tn_V E G enc n lv' st σ res) : tn_V E G enc pc lv (.ref x :: st) σ res := by
  subst hn
  exact fun H locs ls hP hS hl r σ' hr => lv_astore_n g.ex g.by hd hi hl (by rw [g.nl]; exact hu) hl0 (fun ls2 hl2 => k H locs ls2 hP hS hl2 r σ' hr)
theorem tr_astore (g : tn_Ok E G cc own nL R) {i : Nat} {x : Nat} {lv' : List (Nat × Value)} (n : Nat) (hd : decode cc pc = .ok (.astore i, 2)) (hn : pc + 2 = n) (hu : i < nL) (hl0 : (i, Value.ref x) :: lv.filter (fun q => !(q.1 == i) && !(q.1 + 1 == i && q.2.category == 2)) = lv') (k : tn_V E G enc n lv' st σ res) : tn_V E G enc pc lv (.ref x :: st) σ res := by
  subst hn
  exact fun H locs ls hP hS hl r σ' hr => lv_astore g.ex g.by hd hl (by rw [g.nl]; exact hu) hl0 (fun ls2 hl2 => k H locs ls2 hP hS hl2 r σ' hr)
theorem tr_iinc (g : tn_Ok E G cc own nL R) {i : Nat} {d : Int} {y x : Int32} {lv' : List (Nat × Value)} (q n : Nat) (hd : decode cc pc = .ok (.iinc i d, 3)) (hn : pc + 3 = n) (hq : lv[q]? = some (i, .int y)) (hv : y + Int32.ofInt d = x) (hu : i < nL) (hl0 : (i, Value.int x) :: lv.filter (fun q => !(q.1 == i) && !(q.1 + 1 == i && q.2.category == 2)) = lv') (k : tn_V E G enc n lv' st σ res) : tn_V E G enc pc lv st σ res := by
  subst hn
  exact fun H locs ls hP hS hl r σ' hr => lv_iinc g.ex g.by hd hl hq hv (by rw [g.nl]; exact hu) hl0 (fun ls2 hl2 => k H locs ls2 hP hS hl2 r σ' hr)
theorem tr_iadd (g : tn_Ok E G cc own nL R) {x y : Int32} (n : Nat) (hd : decode cc pc = .ok (.iadd, 1)) (hn : pc + 1 = n)  (k : tn_V E G enc n lv (.int (x + y) :: st) σ res) : tn_V E G enc pc lv (.int y :: .int x :: st) σ res := by
  subst hn
  exact fun H locs ls hP hS hl r σ' hr => lv_iadd g.ex g.by hd  (k H locs ls hP hS hl r σ' hr)
theorem tr_isub (g : tn_Ok E G cc own nL R) {x y : Int32} (n : Nat) (hd : decode cc pc = .ok (.isub, 1)) (hn : pc + 1 = n)  (k : tn_V E G enc n lv (.int (x - y) :: st) σ res) : tn_V E G enc pc lv (.int y :: .int x :: st) σ res := by
  subst hn
  exact fun H locs ls hP hS hl r σ' hr => lv_isub g.ex g.by hd  (k H locs ls hP hS hl r σ' hr)
theorem tr_imul (g : tn_Ok E G cc own nL R) {x y : Int32} (n : Nat) (hd : decode cc pc = .ok (.imul, 1)) (hn : pc + 1 = n)  (k : tn_V E G enc n lv (.int (x * y) :: st) σ res) : tn_V E G enc pc lv (.int y :: .int x :: st) σ res := by
  subst hn
  exact fun H locs ls hP hS hl r σ' hr => lv_imul g.ex g.by hd  (k H locs ls hP hS hl r σ' hr)
theorem tr_iand (g : tn_Ok E G cc own nL R) {x y : Int32} (n : Nat) (hd : decode cc pc = .ok (.iand, 1)) (hn : pc + 1 = n)  (k : tn_V E G enc n lv (.int (x &&& y) :: st) σ res) : tn_V E G enc pc lv (.int y :: .int x :: st) σ res := by
  subst hn
  exact fun H locs ls hP hS hl r σ' hr => lv_iand g.ex g.by hd  (k H locs ls hP hS hl r σ' hr)
theorem tr_ior (g : tn_Ok E G cc own nL R) {x y : Int32} (n : Nat) (hd : decode cc pc = .ok (.ior, 1)) (hn : pc + 1 = n)  (k : tn_V E G enc n lv (.int (x ||| y) :: st) σ res) : tn_V E G enc pc lv (.int y :: .int x :: st) σ res := by
  subst hn
  exact fun H locs ls hP hS hl r σ' hr => lv_ior g.ex g.by hd  (k H locs ls hP hS hl r σ' hr)
theorem tr_ixor (g : tn_Ok E G cc own nL R) {x y : Int32} (n : Nat) (hd : decode cc pc = .ok (.ixor, 1)) (hn : pc + 1 = n)  (k : tn_V E G enc n lv (.int (x ^^^ y) :: st) σ res) : tn_V E G enc pc lv (.int y :: .int x :: st) σ res := by
  subst hn
  exact fun H locs ls hP hS hl r σ' hr => lv_ixor g.ex g.by hd  (k H locs ls hP hS hl r σ' hr)
theorem tr_ishl (g : tn_Ok E G cc own nL R) {x y : Int32} (n : Nat) (hd : decode cc pc = .ok (.ishl, 1)) (hn : pc + 1 = n)  (k : tn_V E G enc n lv (.int (x <<< (y &&& 31)) :: st) σ res) : tn_V E G enc pc lv (.int y :: .int x :: st) σ res := by
  subst hn
  exact fun H locs ls hP hS hl r σ' hr => lv_ishl g.ex g.by hd  (k H locs ls hP hS hl r σ' hr)
theorem tr_ishr (g : tn_Ok E G cc own nL R) {x y : Int32} (n : Nat) (hd : decode cc pc = .ok (.ishr, 1)) (hn : pc + 1 = n)  (k : tn_V E G enc n lv (.int (x >>> (y &&& 31)) :: st) σ res) : tn_V E G enc pc lv (.int y :: .int x :: st) σ res := by
  subst hn
  exact fun H locs ls hP hS hl r σ' hr => lv_ishr g.ex g.by hd  (k H locs ls hP hS hl r σ' hr)
theorem tr_ladd (g : tn_Ok E G cc own nL R) {x y : Int64} (n : Nat) (hd : decode cc pc = .ok (.ladd, 1)) (hn : pc + 1 = n)  (k : tn_V E G enc n lv (.long (x + y) :: st) σ res) : tn_V E G enc pc lv (.long y :: .long x :: st) σ res := by
  subst hn
  exact fun H locs ls hP hS hl r σ' hr => lv_ladd g.ex g.by hd  (k H locs ls hP hS hl r σ' hr)
theorem tr_lsub (g : tn_Ok E G cc own nL R) {x y : Int64} (n : Nat) (hd : decode cc pc = .ok (.lsub, 1)) (hn : pc + 1 = n)  (k : tn_V E G enc n lv (.long (x - y) :: st) σ res) : tn_V E G enc pc lv (.long y :: .long x :: st) σ res := by
  subst hn
  exact fun H locs ls hP hS hl r σ' hr => lv_lsub g.ex g.by hd  (k H locs ls hP hS hl r σ' hr)
theorem tr_lmul (g : tn_Ok E G cc own nL R) {x y : Int64} (n : Nat) (hd : decode cc pc = .ok (.lmul, 1)) (hn : pc + 1 = n)  (k : tn_V E G enc n lv (.long (x * y) :: st) σ res) : tn_V E G enc pc lv (.long y :: .long x :: st) σ res := by
  subst hn
  exact fun H locs ls hP hS hl r σ' hr => lv_lmul g.ex g.by hd  (k H locs ls hP hS hl r σ' hr)
theorem tr_lneg (g : tn_Ok E G cc own nL R) {x : Int64} (n : Nat) (hd : decode cc pc = .ok (.lneg, 1)) (hn : pc + 1 = n)  (k : tn_V E G enc n lv (.long (-x) :: st) σ res) : tn_V E G enc pc lv (.long x :: st) σ res := by
  subst hn
  exact fun H locs ls hP hS hl r σ' hr => lv_lneg g.ex g.by hd  (k H locs ls hP hS hl r σ' hr)
theorem tr_iushr (g : tn_Ok E G cc own nL R) {x y : Int32} (n : Nat) (hd : decode cc pc = .ok (.iushr, 1)) (hn : pc + 1 = n) (k : tn_V E G enc n lv (.int (x.toUInt32 >>> (y.toUInt32 &&& Int32.toUInt32 31)).toInt32 :: st) σ res) : tn_V E G enc pc lv (.int y :: .int x :: st) σ res := by
  subst hn
  exact fun H locs ls hP hS hl r σ' hr => lv_iushr g.ex g.by hd rfl (k H locs ls hP hS hl r σ' hr)
theorem tr_idiv (g : tn_Ok E G cc own nL R) {x y : Int32} (n : Nat) (hd : decode cc pc = .ok (.idiv, 1)) (hn : pc + 1 = n) (k : tn_V E G enc n lv (.int (x / y) :: st) σ res) : tn_V E G enc pc lv (.int y :: .int x :: st) σ (tn_dz y res) := by
  subst hn
  intro H locs ls hP hS hl r σ' hr
  unfold tn_dz at hr
  by_cases h : y = 0
  · rw [if_pos h] at hr; cases hr
  · rw [if_neg h] at hr
    exact lv_idiv g.ex g.by hd h (k H locs ls hP hS hl r σ' hr)
theorem tr_idivK (g : tn_Ok E G cc own nL R) {x y : Int32} (n : Nat) (hd : decode cc pc = .ok (.idiv, 1)) (hn : pc + 1 = n) (h : ¬ y = 0) (k : tn_V E G enc n lv (.int (x / y) :: st) σ res) : tn_V E G enc pc lv (.int y :: .int x :: st) σ res := by
  subst hn
  exact fun H locs ls hP hS hl r σ' hr => lv_idiv g.ex g.by hd h (k H locs ls hP hS hl r σ' hr)
theorem tr_irem (g : tn_Ok E G cc own nL R) {x y : Int32} (n : Nat) (hd : decode cc pc = .ok (.irem, 1)) (hn : pc + 1 = n) (k : tn_V E G enc n lv (.int (x - x / y * y) :: st) σ res) : tn_V E G enc pc lv (.int y :: .int x :: st) σ (tn_dz y res) := by
  subst hn
  intro H locs ls hP hS hl r σ' hr
  unfold tn_dz at hr
  by_cases h : y = 0
  · rw [if_pos h] at hr; cases hr
  · rw [if_neg h] at hr
    exact lv_irem g.ex g.by hd h (k H locs ls hP hS hl r σ' hr)
theorem tr_iremK (g : tn_Ok E G cc own nL R) {x y : Int32} (n : Nat) (hd : decode cc pc = .ok (.irem, 1)) (hn : pc + 1 = n) (h : ¬ y = 0) (k : tn_V E G enc n lv (.int (x - x / y * y) :: st) σ res) : tn_V E G enc pc lv (.int y :: .int x :: st) σ res := by
  subst hn
  exact fun H locs ls hP hS hl r σ' hr => lv_irem g.ex g.by hd h (k H locs ls hP hS hl r σ' hr)
theorem tr_ldiv (g : tn_Ok E G cc own nL R) {x y : Int64} (n : Nat) (hd : decode cc pc = .ok (.ldiv, 1)) (hn : pc + 1 = n) (k : tn_V E G enc n lv (.long (x / y) :: st) σ res) : tn_V E G enc pc lv (.long y :: .long x :: st) σ (tn_dzl y res) := by
  subst hn
  intro H locs ls hP hS hl r σ' hr
  unfold tn_dzl at hr
  by_cases h : y = 0
  · rw [if_pos h] at hr; cases hr
  · rw [if_neg h] at hr
    exact lv_ldiv g.ex g.by hd h (k H locs ls hP hS hl r σ' hr)
theorem tr_ldivK (g : tn_Ok E G cc own nL R) {x y : Int64} (n : Nat) (hd : decode cc pc = .ok (.ldiv, 1)) (hn : pc + 1 = n) (h : ¬ y = 0) (k : tn_V E G enc n lv (.long (x / y) :: st) σ res) : tn_V E G enc pc lv (.long y :: .long x :: st) σ res := by
  subst hn
  exact fun H locs ls hP hS hl r σ' hr => lv_ldiv g.ex g.by hd h (k H locs ls hP hS hl r σ' hr)
theorem tr_lrem (g : tn_Ok E G cc own nL R) {x y : Int64} (n : Nat) (hd : decode cc pc = .ok (.lrem, 1)) (hn : pc + 1 = n) (k : tn_V E G enc n lv (.long (x - x / y * y) :: st) σ res) : tn_V E G enc pc lv (.long y :: .long x :: st) σ (tn_dzl y res) := by
  subst hn
  intro H locs ls hP hS hl r σ' hr
  unfold tn_dzl at hr
  by_cases h : y = 0
  · rw [if_pos h] at hr; cases hr
  · rw [if_neg h] at hr
    exact lv_lrem g.ex g.by hd h (k H locs ls hP hS hl r σ' hr)
theorem tr_lremK (g : tn_Ok E G cc own nL R) {x y : Int64} (n : Nat) (hd : decode cc pc = .ok (.lrem, 1)) (hn : pc + 1 = n) (h : ¬ y = 0) (k : tn_V E G enc n lv (.long (x - x / y * y) :: st) σ res) : tn_V E G enc pc lv (.long y :: .long x :: st) σ res := by
  subst hn
  exact fun H locs ls hP hS hl r σ' hr => lv_lrem g.ex g.by hd h (k H locs ls hP hS hl r σ' hr)
theorem tr_i2l (g : tn_Ok E G cc own nL R) {x : Int32} (n : Nat) (hd : decode cc pc = .ok (.i2l, 1)) (hn : pc + 1 = n)  (k : tn_V E G enc n lv (.long x.toInt64 :: st) σ res) : tn_V E G enc pc lv (.int x :: st) σ res := by
  subst hn
  exact fun H locs ls hP hS hl r σ' hr => lv_i2l g.ex g.by hd rfl (k H locs ls hP hS hl r σ' hr)
theorem tr_l2i (g : tn_Ok E G cc own nL R) {x : Int64} (n : Nat) (hd : decode cc pc = .ok (.l2i, 1)) (hn : pc + 1 = n)  (k : tn_V E G enc n lv (.int x.toInt32 :: st) σ res) : tn_V E G enc pc lv (.long x :: st) σ res := by
  subst hn
  exact fun H locs ls hP hS hl r σ' hr => lv_l2i g.ex g.by hd rfl (k H locs ls hP hS hl r σ' hr)
theorem tr_i2b (g : tn_Ok E G cc own nL R) {x : Int32} (n : Nat) (hd : decode cc pc = .ok (.i2b, 1)) (hn : pc + 1 = n)  (k : tn_V E G enc n lv (.int x.toInt8.toInt32 :: st) σ res) : tn_V E G enc pc lv (.int x :: st) σ res := by
  subst hn
  exact fun H locs ls hP hS hl r σ' hr => lv_i2b g.ex g.by hd rfl (k H locs ls hP hS hl r σ' hr)
theorem tr_i2s (g : tn_Ok E G cc own nL R) {x : Int32} (n : Nat) (hd : decode cc pc = .ok (.i2s, 1)) (hn : pc + 1 = n)  (k : tn_V E G enc n lv (.int x.toInt16.toInt32 :: st) σ res) : tn_V E G enc pc lv (.int x :: st) σ res := by
  subst hn
  exact fun H locs ls hP hS hl r σ' hr => lv_i2s g.ex g.by hd rfl (k H locs ls hP hS hl r σ' hr)
theorem tr_dup (g : tn_Ok E G cc own nL R) {v : Value} (n : Nat) (hd : decode cc pc = .ok (.dup, 1)) (hn : pc + 1 = n) (hv : v.category = 1) (k : tn_V E G enc n lv (v :: v :: st) σ res) : tn_V E G enc pc lv (v :: st) σ res := by
  subst hn
  exact fun H locs ls hP hS hl r σ' hr => lv_dup g.ex g.by hd hv (k H locs ls hP hS hl r σ' hr)
theorem tr_pop (g : tn_Ok E G cc own nL R) {v : Value} (n : Nat) (hd : decode cc pc = .ok (.pop, 1)) (hn : pc + 1 = n) (hv : v.category = 1) (k : tn_V E G enc n lv (st) σ res) : tn_V E G enc pc lv (v :: st) σ res := by
  subst hn
  exact fun H locs ls hP hS hl r σ' hr => lv_pop g.ex g.by hd hv (k H locs ls hP hS hl r σ' hr)
theorem tr_dup2 (g : tn_Ok E G cc own nL R) {v w : Value} (n : Nat) (hd : decode cc pc = .ok (.dup2, 1)) (hn : pc + 1 = n) (hv : v.category = 1) (hw : w.category = 1) (k : tn_V E G enc n lv (v :: w :: v :: w :: st) σ res) : tn_V E G enc pc lv (v :: w :: st) σ res := by
  subst hn
  exact fun H locs ls hP hS hl r σ' hr => lv_dup2_11 g.ex g.by hd hv hw (k H locs ls hP hS hl r σ' hr)
theorem tr_lcmp (g : tn_Ok E G cc own nL R) {x y : Int64} (n : Nat) (hd : decode cc pc = .ok (.lcmp, 1)) (hn : pc + 1 = n)  (k : tn_V E G enc n lv (.int (lg_cmp x y) :: st) σ res) : tn_V E G enc pc lv (.long y :: .long x :: st) σ res := by
  subst hn
  exact fun H locs ls hP hS hl r σ' hr => W.lcmp g.ex g.by hd  (k H locs ls hP hS hl r σ' hr)
theorem tr_ldc (g : tn_Ok E G cc own nL R) {i : Nat} {v : Int32} (hw : Cond.constant own i v ∈ tn_T) (n : Nat) (hd : decode cc pc = .ok (.ldc i, 2)) (hn : pc + 2 = n) (k : tn_V E G enc n lv (.int v :: st) σ res) : tn_V E G enc pc lv st σ res := by
  subst hn
  exact fun H locs ls hP hS hl r σ' hr => lv_ldc g.ex g.by g.ow (g.ts _ hw) hd (k H locs ls hP hS hl r σ' hr)
theorem tr_ldcw (g : tn_Ok E G cc own nL R) {i : Nat} {v : Int32} (hw : Cond.constant own i v ∈ tn_T) (n : Nat) (hd : decode cc pc = .ok (.ldc_w i, 3)) (hn : pc + 3 = n) (k : tn_V E G enc n lv (.int v :: st) σ res) : tn_V E G enc pc lv st σ res := by
  subst hn
  exact fun H locs ls hP hS hl r σ' hr => lv_ldcw g.ex g.by g.ow (g.ts _ hw) hd (k H locs ls hP hS hl r σ' hr)
theorem tr_ldc2 (g : tn_Ok E G cc own nL R) {i : Nat} {v : Int64} (hw : Cond.constantLong own i v ∈ tn_T) (n : Nat) (hd : decode cc pc = .ok (.ldc2_w i, 3)) (hn : pc + 3 = n) (k : tn_V E G enc n lv (.long v :: st) σ res) : tn_V E G enc pc lv st σ res := by
  subst hn
  exact fun H locs ls hP hS hl r σ' hr => lv_ldc2 g.ex g.by g.ow (g.ts _ hw) hd (k H locs ls hP hS hl r σ' hr)
theorem tr_goto (g : tn_Ok E G cc own nL R) {off : Int} (t : Nat) (hd : decode cc pc = .ok (.goto off, 3)) (ht : (pc : Int) + off = (t : Int)) (k : tn_V E G enc t lv st σ res) : tn_V E G enc pc lv st σ res :=
  fun H locs ls hP hS hl r σ' hr => lv_goto g.ex g.by hd ht (k H locs ls hP hS hl r σ' hr)
theorem tr_if_eq (g : tn_Ok E G cc own nL R) {x : Int32} {X Y : Option (ρ × tn_M)} {off : Int} (t n : Nat) (hd : decode cc pc = .ok (.ifCond .eq off, 3)) (ht : (pc : Int) + off = (t : Int)) (hn : pc + 3 = n) (kt : tn_V E G enc t lv st σ X) (kf : tn_V E G enc n lv st σ Y) : tn_V E G enc pc lv (.int x :: st) σ (if x = 0 then X else Y) := by
  subst hn
  intro H locs ls hP hS hl r σ' hr
  refine lv_if_eq g.ex g.by hd ht (fun h => kt H locs ls hP hS hl r σ' ?_) (fun h => kf H locs ls hP hS hl r σ' ?_)
  · rw [if_pos h] at hr; exact hr
  · rw [if_neg h] at hr; exact hr
theorem tr_if_eqD (g : tn_Ok E G cc own nL R) {x : Int32} {α : Type} {a b : α} {kk : α → Option (ρ × tn_M)} (inj : α → Value) {off : Int} (J t n : Nat) (hd : decode cc pc = .ok (.ifCond .eq off, 3)) (ht : (pc : Int) + off = (t : Int)) (hn : pc + 3 = n) (kt : ∀ rs : Option (ρ × tn_M), tn_V E G enc J lv (inj a :: st) σ rs → tn_V E G enc t lv st σ rs) (kf : ∀ rs : Option (ρ × tn_M), tn_V E G enc J lv (inj b :: st) σ rs → tn_V E G enc n lv st σ rs) (kj : ∀ v, tn_V E G enc J lv (inj v :: st) σ (kk v)) : tn_V E G enc pc lv (.int x :: st) σ (tn_lt (if x = 0 then a else b) kk) := by
  subst hn
  intro H locs ls hP hS hl r σ' hr
  unfold tn_lt at hr
  refine lv_if_eq g.ex g.by hd ht (fun h => kt _ (kj _) H locs ls hP hS hl r σ' ?_) (fun h => kf _ (kj _) H locs ls hP hS hl r σ' ?_)
  · rw [if_pos h] at hr; exact hr
  · rw [if_neg h] at hr; exact hr
theorem tr_icmp_eq (g : tn_Ok E G cc own nL R) {x y : Int32} {X Y : Option (ρ × tn_M)} {off : Int} (t n : Nat) (hd : decode cc pc = .ok (.if_icmp .eq off, 3)) (ht : (pc : Int) + off = (t : Int)) (hn : pc + 3 = n) (kt : tn_V E G enc t lv st σ X) (kf : tn_V E G enc n lv st σ Y) : tn_V E G enc pc lv (.int y :: .int x :: st) σ (if x = y then X else Y) := by
  subst hn
  intro H locs ls hP hS hl r σ' hr
  refine lv_icmp_eq g.ex g.by hd ht (fun h => kt H locs ls hP hS hl r σ' ?_) (fun h => kf H locs ls hP hS hl r σ' ?_)
  · rw [if_pos h] at hr; exact hr
  · rw [if_neg h] at hr; exact hr
theorem tr_icmp_eqD (g : tn_Ok E G cc own nL R) {x y : Int32} {α : Type} {a b : α} {kk : α → Option (ρ × tn_M)} (inj : α → Value) {off : Int} (J t n : Nat) (hd : decode cc pc = .ok (.if_icmp .eq off, 3)) (ht : (pc : Int) + off = (t : Int)) (hn : pc + 3 = n) (kt : ∀ rs : Option (ρ × tn_M), tn_V E G enc J lv (inj a :: st) σ rs → tn_V E G enc t lv st σ rs) (kf : ∀ rs : Option (ρ × tn_M), tn_V E G enc J lv (inj b :: st) σ rs → tn_V E G enc n lv st σ rs) (kj : ∀ v, tn_V E G enc J lv (inj v :: st) σ (kk v)) : tn_V E G enc pc lv (.int y :: .int x :: st) σ (tn_lt (if x = y then a else b) kk) := by
  subst hn
  intro H locs ls hP hS hl r σ' hr
  unfold tn_lt at hr
  refine lv_icmp_eq g.ex g.by hd ht (fun h => kt _ (kj _) H locs ls hP hS hl r σ' ?_) (fun h => kf _ (kj _) H locs ls hP hS hl r σ' ?_)
  · rw [if_pos h] at hr; exact hr
  · rw [if_neg h] at hr; exact hr
theorem tr_if_ne (g : tn_Ok E G cc own nL R) {x : Int32} {X Y : Option (ρ × tn_M)} {off : Int} (t n : Nat) (hd : decode cc pc = .ok (.ifCond .ne off, 3)) (ht : (pc : Int) + off = (t : Int)) (hn : pc + 3 = n) (kt : tn_V E G enc t lv st σ Y) (kf : tn_V E G enc n lv st σ X) : tn_V E G enc pc lv (.int x :: st) σ (if x = 0 then X else Y) := by
  subst hn
  intro H locs ls hP hS hl r σ' hr
  refine lv_if_ne g.ex g.by hd ht (fun h => kt H locs ls hP hS hl r σ' ?_) (fun h => kf H locs ls hP hS hl r σ' ?_)
  · rw [if_neg h] at hr; exact hr
  · rw [if_pos h] at hr; exact hr
theorem tr_if_neD (g : tn_Ok E G cc own nL R) {x : Int32} {α : Type} {a b : α} {kk : α → Option (ρ × tn_M)} (inj : α → Value) {off : Int} (J t n : Nat) (hd : decode cc pc = .ok (.ifCond .ne off, 3)) (ht : (pc : Int) + off = (t : Int)) (hn : pc + 3 = n) (kt : ∀ rs : Option (ρ × tn_M), tn_V E G enc J lv (inj b :: st) σ rs → tn_V E G enc t lv st σ rs) (kf : ∀ rs : Option (ρ × tn_M), tn_V E G enc J lv (inj a :: st) σ rs → tn_V E G enc n lv st σ rs) (kj : ∀ v, tn_V E G enc J lv (inj v :: st) σ (kk v)) : tn_V E G enc pc lv (.int x :: st) σ (tn_lt (if x = 0 then a else b) kk) := by
  subst hn
  intro H locs ls hP hS hl r σ' hr
  unfold tn_lt at hr
  refine lv_if_ne g.ex g.by hd ht (fun h => kt _ (kj _) H locs ls hP hS hl r σ' ?_) (fun h => kf _ (kj _) H locs ls hP hS hl r σ' ?_)
  · rw [if_neg h] at hr; exact hr
  · rw [if_pos h] at hr; exact hr
theorem tr_icmp_ne (g : tn_Ok E G cc own nL R) {x y : Int32} {X Y : Option (ρ × tn_M)} {off : Int} (t n : Nat) (hd : decode cc pc = .ok (.if_icmp .ne off, 3)) (ht : (pc : Int) + off = (t : Int)) (hn : pc + 3 = n) (kt : tn_V E G enc t lv st σ Y) (kf : tn_V E G enc n lv st σ X) : tn_V E G enc pc lv (.int y :: .int x :: st) σ (if x = y then X else Y) := by
  subst hn
  intro H locs ls hP hS hl r σ' hr
  refine lv_icmp_ne g.ex g.by hd ht (fun h => kt H locs ls hP hS hl r σ' ?_) (fun h => kf H locs ls hP hS hl r σ' ?_)
  · rw [if_neg h] at hr; exact hr
  · rw [if_pos h] at hr; exact hr
theorem tr_icmp_neD (g : tn_Ok E G cc own nL R) {x y : Int32} {α : Type} {a b : α} {kk : α → Option (ρ × tn_M)} (inj : α → Value) {off : Int} (J t n : Nat) (hd : decode cc pc = .ok (.if_icmp .ne off, 3)) (ht : (pc : Int) + off = (t : Int)) (hn : pc + 3 = n) (kt : ∀ rs : Option (ρ × tn_M), tn_V E G enc J lv (inj b :: st) σ rs → tn_V E G enc t lv st σ rs) (kf : ∀ rs : Option (ρ × tn_M), tn_V E G enc J lv (inj a :: st) σ rs → tn_V E G enc n lv st σ rs) (kj : ∀ v, tn_V E G enc J lv (inj v :: st) σ (kk v)) : tn_V E G enc pc lv (.int y :: .int x :: st) σ (tn_lt (if x = y then a else b) kk) := by
  subst hn
  intro H locs ls hP hS hl r σ' hr
  unfold tn_lt at hr
  refine lv_icmp_ne g.ex g.by hd ht (fun h => kt _ (kj _) H locs ls hP hS hl r σ' ?_) (fun h => kf _ (kj _) H locs ls hP hS hl r σ' ?_)
  · rw [if_neg h] at hr; exact hr
  · rw [if_pos h] at hr; exact hr
theorem tr_if_lt (g : tn_Ok E G cc own nL R) {x : Int32} {X Y : Option (ρ × tn_M)} {off : Int} (t n : Nat) (hd : decode cc pc = .ok (.ifCond .lt off, 3)) (ht : (pc : Int) + off = (t : Int)) (hn : pc + 3 = n) (kt : tn_V E G enc t lv st σ X) (kf : tn_V E G enc n lv st σ Y) : tn_V E G enc pc lv (.int x :: st) σ (if x < 0 then X else Y) := by
  subst hn
  intro H locs ls hP hS hl r σ' hr
  refine lv_if_lt g.ex g.by hd ht (fun h => kt H locs ls hP hS hl r σ' ?_) (fun h => kf H locs ls hP hS hl r σ' ?_)
  · rw [if_pos h] at hr; exact hr
  · rw [if_neg h] at hr; exact hr
theorem tr_if_ltD (g : tn_Ok E G cc own nL R) {x : Int32} {α : Type} {a b : α} {kk : α → Option (ρ × tn_M)} (inj : α → Value) {off : Int} (J t n : Nat) (hd : decode cc pc = .ok (.ifCond .lt off, 3)) (ht : (pc : Int) + off = (t : Int)) (hn : pc + 3 = n) (kt : ∀ rs : Option (ρ × tn_M), tn_V E G enc J lv (inj a :: st) σ rs → tn_V E G enc t lv st σ rs) (kf : ∀ rs : Option (ρ × tn_M), tn_V E G enc J lv (inj b :: st) σ rs → tn_V E G enc n lv st σ rs) (kj : ∀ v, tn_V E G enc J lv (inj v :: st) σ (kk v)) : tn_V E G enc pc lv (.int x :: st) σ (tn_lt (if x < 0 then a else b) kk) := by
  subst hn
  intro H locs ls hP hS hl r σ' hr
  unfold tn_lt at hr
  refine lv_if_lt g.ex g.by hd ht (fun h => kt _ (kj _) H locs ls hP hS hl r σ' ?_) (fun h => kf _ (kj _) H locs ls hP hS hl r σ' ?_)
  · rw [if_pos h] at hr; exact hr
  · rw [if_neg h] at hr; exact hr
theorem tr_icmp_lt (g : tn_Ok E G cc own nL R) {x y : Int32} {X Y : Option (ρ × tn_M)} {off : Int} (t n : Nat) (hd : decode cc pc = .ok (.if_icmp .lt off, 3)) (ht : (pc : Int) + off = (t : Int)) (hn : pc + 3 = n) (kt : tn_V E G enc t lv st σ X) (kf : tn_V E G enc n lv st σ Y) : tn_V E G enc pc lv (.int y :: .int x :: st) σ (if x < y then X else Y) := by
  subst hn
  intro H locs ls hP hS hl r σ' hr
  refine lv_icmp_lt g.ex g.by hd ht (fun h => kt H locs ls hP hS hl r σ' ?_) (fun h => kf H locs ls hP hS hl r σ' ?_)
  · rw [if_pos h] at hr; exact hr
  · rw [if_neg h] at hr; exact hr
theorem tr_icmp_ltD (g : tn_Ok E G cc own nL R) {x y : Int32} {α : Type} {a b : α} {kk : α → Option (ρ × tn_M)} (inj : α → Value) {off : Int} (J t n : Nat) (hd : decode cc pc = .ok (.if_icmp .lt off, 3)) (ht : (pc : Int) + off = (t : Int)) (hn : pc + 3 = n) (kt : ∀ rs : Option (ρ × tn_M), tn_V E G enc J lv (inj a :: st) σ rs → tn_V E G enc t lv st σ rs) (kf : ∀ rs : Option (ρ × tn_M), tn_V E G enc J lv (inj b :: st) σ rs → tn_V E G enc n lv st σ rs) (kj : ∀ v, tn_V E G enc J lv (inj v :: st) σ (kk v)) : tn_V E G enc pc lv (.int y :: .int x :: st) σ (tn_lt (if x < y then a else b) kk) := by
  subst hn
  intro H locs ls hP hS hl r σ' hr
  unfold tn_lt at hr
  refine lv_icmp_lt g.ex g.by hd ht (fun h => kt _ (kj _) H locs ls hP hS hl r σ' ?_) (fun h => kf _ (kj _) H locs ls hP hS hl r σ' ?_)
  · rw [if_pos h] at hr; exact hr
  · rw [if_neg h] at hr; exact hr
theorem tr_if_ge (g : tn_Ok E G cc own nL R) {x : Int32} {X Y : Option (ρ × tn_M)} {off : Int} (t n : Nat) (hd : decode cc pc = .ok (.ifCond .ge off, 3)) (ht : (pc : Int) + off = (t : Int)) (hn : pc + 3 = n) (kt : tn_V E G enc t lv st σ X) (kf : tn_V E G enc n lv st σ Y) : tn_V E G enc pc lv (.int x :: st) σ (if 0 ≤ x then X else Y) := by
  subst hn
  intro H locs ls hP hS hl r σ' hr
  refine lv_if_ge g.ex g.by hd ht (fun h => kt H locs ls hP hS hl r σ' ?_) (fun h => kf H locs ls hP hS hl r σ' ?_)
  · rw [if_pos h] at hr; exact hr
  · rw [if_neg h] at hr; exact hr
theorem tr_if_geD (g : tn_Ok E G cc own nL R) {x : Int32} {α : Type} {a b : α} {kk : α → Option (ρ × tn_M)} (inj : α → Value) {off : Int} (J t n : Nat) (hd : decode cc pc = .ok (.ifCond .ge off, 3)) (ht : (pc : Int) + off = (t : Int)) (hn : pc + 3 = n) (kt : ∀ rs : Option (ρ × tn_M), tn_V E G enc J lv (inj a :: st) σ rs → tn_V E G enc t lv st σ rs) (kf : ∀ rs : Option (ρ × tn_M), tn_V E G enc J lv (inj b :: st) σ rs → tn_V E G enc n lv st σ rs) (kj : ∀ v, tn_V E G enc J lv (inj v :: st) σ (kk v)) : tn_V E G enc pc lv (.int x :: st) σ (tn_lt (if 0 ≤ x then a else b) kk) := by
  subst hn
  intro H locs ls hP hS hl r σ' hr
  unfold tn_lt at hr
  refine lv_if_ge g.ex g.by hd ht (fun h => kt _ (kj _) H locs ls hP hS hl r σ' ?_) (fun h => kf _ (kj _) H locs ls hP hS hl r σ' ?_)
  · rw [if_pos h] at hr; exact hr
  · rw [if_neg h] at hr; exact hr
theorem tr_icmp_ge (g : tn_Ok E G cc own nL R) {x y : Int32} {X Y : Option (ρ × tn_M)} {off : Int} (t n : Nat) (hd : decode cc pc = .ok (.if_icmp .ge off, 3)) (ht : (pc : Int) + off = (t : Int)) (hn : pc + 3 = n) (kt : tn_V E G enc t lv st σ X) (kf : tn_V E G enc n lv st σ Y) : tn_V E G enc pc lv (.int y :: .int x :: st) σ (if y ≤ x then X else Y) := by
  subst hn
  intro H locs ls hP hS hl r σ' hr
  refine lv_icmp_ge g.ex g.by hd ht (fun h => kt H locs ls hP hS hl r σ' ?_) (fun h => kf H locs ls hP hS hl r σ' ?_)
  · rw [if_pos h] at hr; exact hr
  · rw [if_neg h] at hr; exact hr
theorem tr_icmp_geD (g : tn_Ok E G cc own nL R) {x y : Int32} {α : Type} {a b : α} {kk : α → Option (ρ × tn_M)} (inj : α → Value) {off : Int} (J t n : Nat) (hd : decode cc pc = .ok (.if_icmp .ge off, 3)) (ht : (pc : Int) + off = (t : Int)) (hn : pc + 3 = n) (kt : ∀ rs : Option (ρ × tn_M), tn_V E G enc J lv (inj a :: st) σ rs → tn_V E G enc t lv st σ rs) (kf : ∀ rs : Option (ρ × tn_M), tn_V E G enc J lv (inj b :: st) σ rs → tn_V E G enc n lv st σ rs) (kj : ∀ v, tn_V E G enc J lv (inj v :: st) σ (kk v)) : tn_V E G enc pc lv (.int y :: .int x :: st) σ (tn_lt (if y ≤ x then a else b) kk) := by
  subst hn
  intro H locs ls hP hS hl r σ' hr
  unfold tn_lt at hr
  refine lv_icmp_ge g.ex g.by hd ht (fun h => kt _ (kj _) H locs ls hP hS hl r σ' ?_) (fun h => kf _ (kj _) H locs ls hP hS hl r σ' ?_)
  · rw [if_pos h] at hr; exact hr
  · rw [if_neg h] at hr; exact hr
theorem tr_if_gt (g : tn_Ok E G cc own nL R) {x : Int32} {X Y : Option (ρ × tn_M)} {off : Int} (t n : Nat) (hd : decode cc pc = .ok (.ifCond .gt off, 3)) (ht : (pc : Int) + off = (t : Int)) (hn : pc + 3 = n) (kt : tn_V E G enc t lv st σ X) (kf : tn_V E G enc n lv st σ Y) : tn_V E G enc pc lv (.int x :: st) σ (if 0 < x then X else Y) := by
  subst hn
  intro H locs ls hP hS hl r σ' hr
  refine lv_if_gt g.ex g.by hd ht (fun h => kt H locs ls hP hS hl r σ' ?_) (fun h => kf H locs ls hP hS hl r σ' ?_)
  · rw [if_pos h] at hr; exact hr
  · rw [if_neg h] at hr; exact hr
theorem tr_if_gtD (g : tn_Ok E G cc own nL R) {x : Int32} {α : Type} {a b : α} {kk : α → Option (ρ × tn_M)} (inj : α → Value) {off : Int} (J t n : Nat) (hd : decode cc pc = .ok (.ifCond .gt off, 3)) (ht : (pc : Int) + off = (t : Int)) (hn : pc + 3 = n) (kt : ∀ rs : Option (ρ × tn_M), tn_V E G enc J lv (inj a :: st) σ rs → tn_V E G enc t lv st σ rs) (kf : ∀ rs : Option (ρ × tn_M), tn_V E G enc J lv (inj b :: st) σ rs → tn_V E G enc n lv st σ rs) (kj : ∀ v, tn_V E G enc J lv (inj v :: st) σ (kk v)) : tn_V E G enc pc lv (.int x :: st) σ (tn_lt (if 0 < x then a else b) kk) := by
  subst hn
  intro H locs ls hP hS hl r σ' hr
  unfold tn_lt at hr
  refine lv_if_gt g.ex g.by hd ht (fun h => kt _ (kj _) H locs ls hP hS hl r σ' ?_) (fun h => kf _ (kj _) H locs ls hP hS hl r σ' ?_)
  · rw [if_pos h] at hr; exact hr
  · rw [if_neg h] at hr; exact hr
theorem tr_icmp_gt (g : tn_Ok E G cc own nL R) {x y : Int32} {X Y : Option (ρ × tn_M)} {off : Int} (t n : Nat) (hd : decode cc pc = .ok (.if_icmp .gt off, 3)) (ht : (pc : Int) + off = (t : Int)) (hn : pc + 3 = n) (kt : tn_V E G enc t lv st σ X) (kf : tn_V E G enc n lv st σ Y) : tn_V E G enc pc lv (.int y :: .int x :: st) σ (if y < x then X else Y) := by
  subst hn
  intro H locs ls hP hS hl r σ' hr
  refine lv_icmp_gt g.ex g.by hd ht (fun h => kt H locs ls hP hS hl r σ' ?_) (fun h => kf H locs ls hP hS hl r σ' ?_)
  · rw [if_pos h] at hr; exact hr
  · rw [if_neg h] at hr; exact hr
theorem tr_icmp_gtD (g : tn_Ok E G cc own nL R) {x y : Int32} {α : Type} {a b : α} {kk : α → Option (ρ × tn_M)} (inj : α → Value) {off : Int} (J t n : Nat) (hd : decode cc pc = .ok (.if_icmp .gt off, 3)) (ht : (pc : Int) + off = (t : Int)) (hn : pc + 3 = n) (kt : ∀ rs : Option (ρ × tn_M), tn_V E G enc J lv (inj a :: st) σ rs → tn_V E G enc t lv st σ rs) (kf : ∀ rs : Option (ρ × tn_M), tn_V E G enc J lv (inj b :: st) σ rs → tn_V E G enc n lv st σ rs) (kj : ∀ v, tn_V E G enc J lv (inj v :: st) σ (kk v)) : tn_V E G enc pc lv (.int y :: .int x :: st) σ (tn_lt (if y < x then a else b) kk) := by
  subst hn
  intro H locs ls hP hS hl r σ' hr
  unfold tn_lt at hr
  refine lv_icmp_gt g.ex g.by hd ht (fun h => kt _ (kj _) H locs ls hP hS hl r σ' ?_) (fun h => kf _ (kj _) H locs ls hP hS hl r σ' ?_)
  · rw [if_pos h] at hr; exact hr
  · rw [if_neg h] at hr; exact hr
theorem tr_if_le (g : tn_Ok E G cc own nL R) {x : Int32} {X Y : Option (ρ × tn_M)} {off : Int} (t n : Nat) (hd : decode cc pc = .ok (.ifCond .le off, 3)) (ht : (pc : Int) + off = (t : Int)) (hn : pc + 3 = n) (kt : tn_V E G enc t lv st σ X) (kf : tn_V E G enc n lv st σ Y) : tn_V E G enc pc lv (.int x :: st) σ (if x ≤ 0 then X else Y) := by
  subst hn
  intro H locs ls hP hS hl r σ' hr
  refine lv_if_le g.ex g.by hd ht (fun h => kt H locs ls hP hS hl r σ' ?_) (fun h => kf H locs ls hP hS hl r σ' ?_)
  · rw [if_pos h] at hr; exact hr
  · rw [if_neg h] at hr; exact hr
theorem tr_if_leD (g : tn_Ok E G cc own nL R) {x : Int32} {α : Type} {a b : α} {kk : α → Option (ρ × tn_M)} (inj : α → Value) {off : Int} (J t n : Nat) (hd : decode cc pc = .ok (.ifCond .le off, 3)) (ht : (pc : Int) + off = (t : Int)) (hn : pc + 3 = n) (kt : ∀ rs : Option (ρ × tn_M), tn_V E G enc J lv (inj a :: st) σ rs → tn_V E G enc t lv st σ rs) (kf : ∀ rs : Option (ρ × tn_M), tn_V E G enc J lv (inj b :: st) σ rs → tn_V E G enc n lv st σ rs) (kj : ∀ v, tn_V E G enc J lv (inj v :: st) σ (kk v)) : tn_V E G enc pc lv (.int x :: st) σ (tn_lt (if x ≤ 0 then a else b) kk) := by
  subst hn
  intro H locs ls hP hS hl r σ' hr
  unfold tn_lt at hr
  refine lv_if_le g.ex g.by hd ht (fun h => kt _ (kj _) H locs ls hP hS hl r σ' ?_) (fun h => kf _ (kj _) H locs ls hP hS hl r σ' ?_)
  · rw [if_pos h] at hr; exact hr
  · rw [if_neg h] at hr; exact hr
theorem tr_icmp_le (g : tn_Ok E G cc own nL R) {x y : Int32} {X Y : Option (ρ × tn_M)} {off : Int} (t n : Nat) (hd : decode cc pc = .ok (.if_icmp .le off, 3)) (ht : (pc : Int) + off = (t : Int)) (hn : pc + 3 = n) (kt : tn_V E G enc t lv st σ X) (kf : tn_V E G enc n lv st σ Y) : tn_V E G enc pc lv (.int y :: .int x :: st) σ (if x ≤ y then X else Y) := by
  subst hn
  intro H locs ls hP hS hl r σ' hr
  refine lv_icmp_le g.ex g.by hd ht (fun h => kt H locs ls hP hS hl r σ' ?_) (fun h => kf H locs ls hP hS hl r σ' ?_)
  · rw [if_pos h] at hr; exact hr
  · rw [if_neg h] at hr; exact hr
theorem tr_icmp_leD (g : tn_Ok E G cc own nL R) {x y : Int32} {α : Type} {a b : α} {kk : α → Option (ρ × tn_M)} (inj : α → Value) {off : Int} (J t n : Nat) (hd : decode cc pc = .ok (.if_icmp .le off, 3)) (ht : (pc : Int) + off = (t : Int)) (hn : pc + 3 = n) (kt : ∀ rs : Option (ρ × tn_M), tn_V E G enc J lv (inj a :: st) σ rs → tn_V E G enc t lv st σ rs) (kf : ∀ rs : Option (ρ × tn_M), tn_V E G enc J lv (inj b :: st) σ rs → tn_V E G enc n lv st σ rs) (kj : ∀ v, tn_V E G enc J lv (inj v :: st) σ (kk v)) : tn_V E G enc pc lv (.int y :: .int x :: st) σ (tn_lt (if x ≤ y then a else b) kk) := by
  subst hn
  intro H locs ls hP hS hl r σ' hr
  unfold tn_lt at hr
  refine lv_icmp_le g.ex g.by hd ht (fun h => kt _ (kj _) H locs ls hP hS hl r σ' ?_) (fun h => kf _ (kj _) H locs ls hP hS hl r σ' ?_)
  · rw [if_pos h] at hr; exact hr
  · rw [if_neg h] at hr; exact hr
theorem tr_leq (g : tn_Ok E G cc own nL R) {x y : Int64} {X Y : Option (ρ × tn_M)} {off : Int} (t n : Nat) (hd0 : decode cc pc = .ok (.lcmp, 1)) (hd : decode cc (pc + 1) = .ok (.ifCond .eq off, 3)) (ht : ((pc + 1 : Nat) : Int) + off = (t : Int)) (hn : pc + 4 = n) (kt : tn_V E G enc t lv st σ X) (kf : tn_V E G enc n lv st σ Y) : tn_V E G enc pc lv (.long y :: .long x :: st) σ (if x = y then X else Y) := by
  subst hn
  intro H locs ls hP hS hl r σ' hr
  refine W.lcmp g.ex g.by hd0 ?_
  refine lv_if_eq g.ex g.by hd ht (fun h => kt H locs ls hP hS hl r σ' ?_) (fun h => kf H locs ls hP hS hl r σ' ?_)
  · rw [if_pos ((lg_cmp_eq x y).mp h)] at hr; exact hr
  · rw [if_neg (fun z => h ((lg_cmp_eq x y).mpr z))] at hr; exact hr
theorem tr_leqD (g : tn_Ok E G cc own nL R) {x y : Int64} {α : Type} {a b : α} {kk : α → Option (ρ × tn_M)} (inj : α → Value) {off : Int} (J t n : Nat) (hd0 : decode cc pc = .ok (.lcmp, 1)) (hd : decode cc (pc + 1) = .ok (.ifCond .eq off, 3)) (ht : ((pc + 1 : Nat) : Int) + off = (t : Int)) (hn : pc + 4 = n) (kt : ∀ rs : Option (ρ × tn_M), tn_V E G enc J lv (inj a :: st) σ rs → tn_V E G enc t lv st σ rs) (kf : ∀ rs : Option (ρ × tn_M), tn_V E G enc J lv (inj b :: st) σ rs → tn_V E G enc n lv st σ rs) (kj : ∀ v, tn_V E G enc J lv (inj v :: st) σ (kk v)) : tn_V E G enc pc lv (.long y :: .long x :: st) σ (tn_lt (if x = y then a else b) kk) := by
  subst hn
  intro H locs ls hP hS hl r σ' hr
  unfold tn_lt at hr
  refine W.lcmp g.ex g.by hd0 ?_
  refine lv_if_eq g.ex g.by hd ht (fun h => kt _ (kj _) H locs ls hP hS hl r σ' ?_) (fun h => kf _ (kj _) H locs ls hP hS hl r σ' ?_)
  · rw [if_pos ((lg_cmp_eq x y).mp h)] at hr; exact hr
  · rw [if_neg (fun z => h ((lg_cmp_eq x y).mpr z))] at hr; exact hr
theorem tr_lne (g : tn_Ok E G cc own nL R) {x y : Int64} {X Y : Option (ρ × tn_M)} {off : Int} (t n : Nat) (hd0 : decode cc pc = .ok (.lcmp, 1)) (hd : decode cc (pc + 1) = .ok (.ifCond .ne off, 3)) (ht : ((pc + 1 : Nat) : Int) + off = (t : Int)) (hn : pc + 4 = n) (kt : tn_V E G enc t lv st σ Y) (kf : tn_V E G enc n lv st σ X) : tn_V E G enc pc lv (.long y :: .long x :: st) σ (if x = y then X else Y) := by
  subst hn
  intro H locs ls hP hS hl r σ' hr
  refine W.lcmp g.ex g.by hd0 ?_
  refine lv_if_ne g.ex g.by hd ht (fun h => kt H locs ls hP hS hl r σ' ?_) (fun h => kf H locs ls hP hS hl r σ' ?_)
  · rw [if_neg (fun z => h ((lg_cmp_eq x y).mpr z))] at hr; exact hr
  · rw [if_pos ((lg_cmp_eq x y).mp h)] at hr; exact hr
theorem tr_lneD (g : tn_Ok E G cc own nL R) {x y : Int64} {α : Type} {a b : α} {kk : α → Option (ρ × tn_M)} (inj : α → Value) {off : Int} (J t n : Nat) (hd0 : decode cc pc = .ok (.lcmp, 1)) (hd : decode cc (pc + 1) = .ok (.ifCond .ne off, 3)) (ht : ((pc + 1 : Nat) : Int) + off = (t : Int)) (hn : pc + 4 = n) (kt : ∀ rs : Option (ρ × tn_M), tn_V E G enc J lv (inj b :: st) σ rs → tn_V E G enc t lv st σ rs) (kf : ∀ rs : Option (ρ × tn_M), tn_V E G enc J lv (inj a :: st) σ rs → tn_V E G enc n lv st σ rs) (kj : ∀ v, tn_V E G enc J lv (inj v :: st) σ (kk v)) : tn_V E G enc pc lv (.long y :: .long x :: st) σ (tn_lt (if x = y then a else b) kk) := by
  subst hn
  intro H locs ls hP hS hl r σ' hr
  unfold tn_lt at hr
  refine W.lcmp g.ex g.by hd0 ?_
  refine lv_if_ne g.ex g.by hd ht (fun h => kt _ (kj _) H locs ls hP hS hl r σ' ?_) (fun h => kf _ (kj _) H locs ls hP hS hl r σ' ?_)
  · rw [if_neg (fun z => h ((lg_cmp_eq x y).mpr z))] at hr; exact hr
  · rw [if_pos ((lg_cmp_eq x y).mp h)] at hr; exact hr
theorem tr_llt (g : tn_Ok E G cc own nL R) {x y : Int64} {X Y : Option (ρ × tn_M)} {off : Int} (t n : Nat) (hd0 : decode cc pc = .ok (.lcmp, 1)) (hd : decode cc (pc + 1) = .ok (.ifCond .lt off, 3)) (ht : ((pc + 1 : Nat) : Int) + off = (t : Int)) (hn : pc + 4 = n) (kt : tn_V E G enc t lv st σ X) (kf : tn_V E G enc n lv st σ Y) : tn_V E G enc pc lv (.long y :: .long x :: st) σ (if x < y then X else Y) := by
  subst hn
  intro H locs ls hP hS hl r σ' hr
  refine W.lcmp g.ex g.by hd0 ?_
  refine lv_if_lt g.ex g.by hd ht (fun h => kt H locs ls hP hS hl r σ' ?_) (fun h => kf H locs ls hP hS hl r σ' ?_)
  · rw [if_pos ((lg_cmp_lt x y).mp h)] at hr; exact hr
  · rw [if_neg (fun z => h ((lg_cmp_lt x y).mpr z))] at hr; exact hr
theorem tr_lltD (g : tn_Ok E G cc own nL R) {x y : Int64} {α : Type} {a b : α} {kk : α → Option (ρ × tn_M)} (inj : α → Value) {off : Int} (J t n : Nat) (hd0 : decode cc pc = .ok (.lcmp, 1)) (hd : decode cc (pc + 1) = .ok (.ifCond .lt off, 3)) (ht : ((pc + 1 : Nat) : Int) + off = (t : Int)) (hn : pc + 4 = n) (kt : ∀ rs : Option (ρ × tn_M), tn_V E G enc J lv (inj a :: st) σ rs → tn_V E G enc t lv st σ rs) (kf : ∀ rs : Option (ρ × tn_M), tn_V E G enc J lv (inj b :: st) σ rs → tn_V E G enc n lv st σ rs) (kj : ∀ v, tn_V E G enc J lv (inj v :: st) σ (kk v)) : tn_V E G enc pc lv (.long y :: .long x :: st) σ (tn_lt (if x < y then a else b) kk) := by
  subst hn
  intro H locs ls hP hS hl r σ' hr
  unfold tn_lt at hr
  refine W.lcmp g.ex g.by hd0 ?_
  refine lv_if_lt g.ex g.by hd ht (fun h => kt _ (kj _) H locs ls hP hS hl r σ' ?_) (fun h => kf _ (kj _) H locs ls hP hS hl r σ' ?_)
  · rw [if_pos ((lg_cmp_lt x y).mp h)] at hr; exact hr
  · rw [if_neg (fun z => h ((lg_cmp_lt x y).mpr z))] at hr; exact hr
theorem tr_lge (g : tn_Ok E G cc own nL R) {x y : Int64} {X Y : Option (ρ × tn_M)} {off : Int} (t n : Nat) (hd0 : decode cc pc = .ok (.lcmp, 1)) (hd : decode cc (pc + 1) = .ok (.ifCond .ge off, 3)) (ht : ((pc + 1 : Nat) : Int) + off = (t : Int)) (hn : pc + 4 = n) (kt : tn_V E G enc t lv st σ X) (kf : tn_V E G enc n lv st σ Y) : tn_V E G enc pc lv (.long y :: .long x :: st) σ (if y ≤ x then X else Y) := by
  subst hn
  intro H locs ls hP hS hl r σ' hr
  refine W.lcmp g.ex g.by hd0 ?_
  refine lv_if_ge g.ex g.by hd ht (fun h => kt H locs ls hP hS hl r σ' ?_) (fun h => kf H locs ls hP hS hl r σ' ?_)
  · rw [if_pos ((lg_cmp_ge x y).mp h)] at hr; exact hr
  · rw [if_neg (fun z => h ((lg_cmp_ge x y).mpr z))] at hr; exact hr
theorem tr_lgeD (g : tn_Ok E G cc own nL R) {x y : Int64} {α : Type} {a b : α} {kk : α → Option (ρ × tn_M)} (inj : α → Value) {off : Int} (J t n : Nat) (hd0 : decode cc pc = .ok (.lcmp, 1)) (hd : decode cc (pc + 1) = .ok (.ifCond .ge off, 3)) (ht : ((pc + 1 : Nat) : Int) + off = (t : Int)) (hn : pc + 4 = n) (kt : ∀ rs : Option (ρ × tn_M), tn_V E G enc J lv (inj a :: st) σ rs → tn_V E G enc t lv st σ rs) (kf : ∀ rs : Option (ρ × tn_M), tn_V E G enc J lv (inj b :: st) σ rs → tn_V E G enc n lv st σ rs) (kj : ∀ v, tn_V E G enc J lv (inj v :: st) σ (kk v)) : tn_V E G enc pc lv (.long y :: .long x :: st) σ (tn_lt (if y ≤ x then a else b) kk) := by
  subst hn
  intro H locs ls hP hS hl r σ' hr
  unfold tn_lt at hr
  refine W.lcmp g.ex g.by hd0 ?_
  refine lv_if_ge g.ex g.by hd ht (fun h => kt _ (kj _) H locs ls hP hS hl r σ' ?_) (fun h => kf _ (kj _) H locs ls hP hS hl r σ' ?_)
  · rw [if_pos ((lg_cmp_ge x y).mp h)] at hr; exact hr
  · rw [if_neg (fun z => h ((lg_cmp_ge x y).mpr z))] at hr; exact hr
theorem tr_lgt (g : tn_Ok E G cc own nL R) {x y : Int64} {X Y : Option (ρ × tn_M)} {off : Int} (t n : Nat) (hd0 : decode cc pc = .ok (.lcmp, 1)) (hd : decode cc (pc + 1) = .ok (.ifCond .gt off, 3)) (ht : ((pc + 1 : Nat) : Int) + off = (t : Int)) (hn : pc + 4 = n) (kt : tn_V E G enc t lv st σ X) (kf : tn_V E G enc n lv st σ Y) : tn_V E G enc pc lv (.long y :: .long x :: st) σ (if y < x then X else Y) := by
  subst hn
  intro H locs ls hP hS hl r σ' hr
  refine W.lcmp g.ex g.by hd0 ?_
  refine lv_if_gt g.ex g.by hd ht (fun h => kt H locs ls hP hS hl r σ' ?_) (fun h => kf H locs ls hP hS hl r σ' ?_)
  · rw [if_pos ((lg_cmp_gt x y).mp h)] at hr; exact hr
  · rw [if_neg (fun z => h ((lg_cmp_gt x y).mpr z))] at hr; exact hr
theorem tr_lgtD (g : tn_Ok E G cc own nL R) {x y : Int64} {α : Type} {a b : α} {kk : α → Option (ρ × tn_M)} (inj : α → Value) {off : Int} (J t n : Nat) (hd0 : decode cc pc = .ok (.lcmp, 1)) (hd : decode cc (pc + 1) = .ok (.ifCond .gt off, 3)) (ht : ((pc + 1 : Nat) : Int) + off = (t : Int)) (hn : pc + 4 = n) (kt : ∀ rs : Option (ρ × tn_M), tn_V E G enc J lv (inj a :: st) σ rs → tn_V E G enc t lv st σ rs) (kf : ∀ rs : Option (ρ × tn_M), tn_V E G enc J lv (inj b :: st) σ rs → tn_V E G enc n lv st σ rs) (kj : ∀ v, tn_V E G enc J lv (inj v :: st) σ (kk v)) : tn_V E G enc pc lv (.long y :: .long x :: st) σ (tn_lt (if y < x then a else b) kk) := by
  subst hn
  intro H locs ls hP hS hl r σ' hr
  unfold tn_lt at hr
  refine W.lcmp g.ex g.by hd0 ?_
  refine lv_if_gt g.ex g.by hd ht (fun h => kt _ (kj _) H locs ls hP hS hl r σ' ?_) (fun h => kf _ (kj _) H locs ls hP hS hl r σ' ?_)
  · rw [if_pos ((lg_cmp_gt x y).mp h)] at hr; exact hr
  · rw [if_neg (fun z => h ((lg_cmp_gt x y).mpr z))] at hr; exact hr
theorem tr_lle (g : tn_Ok E G cc own nL R) {x y : Int64} {X Y : Option (ρ × tn_M)} {off : Int} (t n : Nat) (hd0 : decode cc pc = .ok (.lcmp, 1)) (hd : decode cc (pc + 1) = .ok (.ifCond .le off, 3)) (ht : ((pc + 1 : Nat) : Int) + off = (t : Int)) (hn : pc + 4 = n) (kt : tn_V E G enc t lv st σ X) (kf : tn_V E G enc n lv st σ Y) : tn_V E G enc pc lv (.long y :: .long x :: st) σ (if x ≤ y then X else Y) := by
  subst hn
  intro H locs ls hP hS hl r σ' hr
  refine W.lcmp g.ex g.by hd0 ?_
  refine lv_if_le g.ex g.by hd ht (fun h => kt H locs ls hP hS hl r σ' ?_) (fun h => kf H locs ls hP hS hl r σ' ?_)
  · rw [if_pos ((lg_cmp_le x y).mp h)] at hr; exact hr
  · rw [if_neg (fun z => h ((lg_cmp_le x y).mpr z))] at hr; exact hr
theorem tr_lleD (g : tn_Ok E G cc own nL R) {x y : Int64} {α : Type} {a b : α} {kk : α → Option (ρ × tn_M)} (inj : α → Value) {off : Int} (J t n : Nat) (hd0 : decode cc pc = .ok (.lcmp, 1)) (hd : decode cc (pc + 1) = .ok (.ifCond .le off, 3)) (ht : ((pc + 1 : Nat) : Int) + off = (t : Int)) (hn : pc + 4 = n) (kt : ∀ rs : Option (ρ × tn_M), tn_V E G enc J lv (inj a :: st) σ rs → tn_V E G enc t lv st σ rs) (kf : ∀ rs : Option (ρ × tn_M), tn_V E G enc J lv (inj b :: st) σ rs → tn_V E G enc n lv st σ rs) (kj : ∀ v, tn_V E G enc J lv (inj v :: st) σ (kk v)) : tn_V E G enc pc lv (.long y :: .long x :: st) σ (tn_lt (if x ≤ y then a else b) kk) := by
  subst hn
  intro H locs ls hP hS hl r σ' hr
  unfold tn_lt at hr
  refine W.lcmp g.ex g.by hd0 ?_
  refine lv_if_le g.ex g.by hd ht (fun h => kt _ (kj _) H locs ls hP hS hl r σ' ?_) (fun h => kf _ (kj _) H locs ls hP hS hl r σ' ?_)
  · rw [if_pos ((lg_cmp_le x y).mp h)] at hr; exact hr
  · rw [if_neg (fun z => h ((lg_cmp_le x y).mpr z))] at hr; exact hr
theorem tr_swOut (g : tn_Ok E G cc own nL R) {dflt lo hi : Int} {offs : Array Int} {len : Nat} {x : Int32} (t : Nat) (hd : decode cc pc = .ok (.tableswitch dflt lo hi offs, len)) (h : x.toInt < lo ∨ hi < x.toInt) (ht : (pc : Int) + dflt = (t : Int)) (k : tn_V E G enc t lv st σ res) : tn_V E G enc pc lv (.int x :: st) σ res :=
  fun H locs ls hP hS hl r σ' hr => lv_tableOut g.ex g.by hd h ht (k H locs ls hP hS hl r σ' hr)
theorem tr_swIn (g : tn_Ok E G cc own nL R) {dflt lo hi : Int} {offs : Array Int} {len : Nat} {x : Int32} {off : Int} (t : Nat) (hd : decode cc pc = .ok (.tableswitch dflt lo hi offs, len)) (h1 : ¬ x.toInt < lo) (h2 : ¬ hi < x.toInt) (ho : offs[(x.toInt - lo).toNat]? = some off) (ht : (pc : Int) + off = (t : Int)) (k : tn_V E G enc t lv st σ res) : tn_V E G enc pc lv (.int x :: st) σ res :=
  fun H locs ls hP hS hl r σ' hr => lv_tableIn g.ex g.by hd h1 h2 ho ht (k H locs ls hP hS hl r σ' hr)
theorem tr_ite {c : Prop} [Decidable c] {X Y : Option (ρ × tn_M)} (kt : c → tn_V E G enc pc lv st σ X) (kf : ¬ c → tn_V E G enc pc lv st σ Y) : tn_V E G enc pc lv st σ (if c then X else Y) := by
  by_cases h : c
  · rw [if_pos h]; exact kt h
  · rw [if_neg h]; exact kf h
theorem tr_iald (g : tn_Ok E G cc own nL R) {a : Nat} {i : Int32} {N : Nat} (n : Nat) (hk : tn_kd a = 1) (hN : tn_len a = N) (hd : decode cc pc = .ok (.iaload, 1)) (hn : pc + 1 = n) (k : tn_V E G enc n lv (.int (σ.1 a (tn_x i)) :: st) σ res) : tn_V E G enc pc lv (.int i :: .ref (tn_ad E a) :: st) σ (tn_ck i N res) := by
  subst hn
  intro H locs ls hP hS hl r σ' hr
  unfold tn_ck at hr
  by_cases h : i < 0 ∨ N ≤ i.toNatClampNeg
  · rw [if_pos h] at hr; cases hr
  · rw [if_neg h] at hr
    exact va_iald g.ex g.by g.K hP a 0 (tn_ws_i hk) rfl (by rw [hN]; exact h) hd (k H locs ls hP hS hl r σ' hr)
theorem tr_lald (g : tn_Ok E G cc own nL R) {a : Nat} {i : Int32} {N : Nat} (n : Nat) (hk : tn_kd a = 2) (hN : tn_len a = N) (hd : decode cc pc = .ok (.laload, 1)) (hn : pc + 1 = n) (k : tn_V E G enc n lv (.long (σ.2 a (tn_x i)) :: st) σ res) : tn_V E G enc pc lv (.int i :: .ref (tn_ad E a) :: st) σ (tn_ck i N res) := by
  subst hn
  intro H locs ls hP hS hl r σ' hr
  unfold tn_ck at hr
  by_cases h : i < 0 ∨ N ≤ i.toNatClampNeg
  · rw [if_pos h] at hr; cases hr
  · rw [if_neg h] at hr
    exact va_lald g.ex g.by g.K hP a 1 (tn_ws_l hk) rfl (by rw [hN]; exact h) hd (k H locs ls hP hS hl r σ' hr)
theorem tr_aald (g : tn_Ok E G cc own nL R) {a : Nat} {i : Int32} {N : Nat} (n : Nat) (hk : tn_kd a = 3) (hN : tn_len a = N) (hd : decode cc pc = .ok (.aaload, 1)) (hn : pc + 1 = n) (k : (i < 0 ∨ N ≤ i.toNatClampNeg → False) → tn_V E G enc n lv (.ref (tn_ad E (a + 1 + tn_x i)) :: st) σ res) : tn_V E G enc pc lv (.int i :: .ref (tn_ad E a) :: st) σ (tn_ck i N res) := by
  subst hn
  intro H locs ls hP hS hl r σ' hr
  unfold tn_ck at hr
  by_cases h : i < 0 ∨ N ≤ i.toNatClampNeg
  · rw [if_pos h] at hr; cases hr
  · rw [if_neg h] at hr
    have hlt : i.toNatClampNeg < tn_len a := by rw [hN]; exact Nat.not_le.mp fun q => h (Or.inr q)
    have hin : ¬ (i < 0 ∨ tn_len a ≤ i.toNatClampNeg) := by rw [hN]; exact h
    have hc := hP a _ (tn_ws_r hk)
    exact W.aald (v := .ref (tn_ad E (a + 1 + tn_x i))) (ty := .array .int) g.ex g.by hc ((g.K.2 2 _ rfl).1 (tn_len a) (fun j => va_rf (some (tn_ad E (a + 1 + j))))) rfl (fun q => by cases q) (by show ¬ (i < 0 ∨ (arrV _ _ _).slots.size ≤ _); rw [arrV_size]; exact hin) (by show (arrV _ _ _).slots[_]? = _; rw [arrV_read _ _ hlt]; rfl) rfl rfl hd (k h H locs ls hP hS hl r σ' hr)
theorem tr_iast (g : tn_Ok E G cc own nL R) {a : Nat} {i x : Int32} {N : Nat} (n : Nat) (hk : tn_kd a = 1) (hN : tn_len a = N) (hd : decode cc pc = .ok (.iastore, 1)) (hn : pc + 1 = n) {kk : tn_M → Option (ρ × tn_M)} (k : ∀ σ1, tn_V E G enc n lv st σ1 (kk σ1)) : tn_V E G enc pc lv (.int x :: .int i :: .ref (tn_ad E a) :: st) σ (tn_ck i N (tn_lt (tn_si σ a (tn_x i) x) kk)) := by
  subst hn
  intro H locs ls hP hS hl r σ' hr
  unfold tn_ck at hr
  by_cases h : i < 0 ∨ N ≤ i.toNatClampNeg
  · rw [if_pos h] at hr; cases hr
  · rw [if_neg h] at hr
    refine va_iast g.ex g.by g.K hP (g.D σ) hS a 0 (tn_ws_i hk) rfl (by rw [hN]; exact h) hd (fun H1 locs1 hP1 _ hS1 => ?_)
    rw [tn_ws_set (σ' := tn_si σ a (tn_x i) x) (by rw [tn_cell_i hk]; simp only [tn_si, if_pos, tn_x]) tn_si_ne] at hP1
    exact k _ H1 locs1 ls hP1 hS1 hl r σ' hr
theorem tr_last (g : tn_Ok E G cc own nL R) {a : Nat} {i : Int32} {x : Int64} {N : Nat} (n : Nat) (hk : tn_kd a = 2) (hN : tn_len a = N) (hd : decode cc pc = .ok (.lastore, 1)) (hn : pc + 1 = n) {kk : tn_M → Option (ρ × tn_M)} (k : ∀ σ1, tn_V E G enc n lv st σ1 (kk σ1)) : tn_V E G enc pc lv (.long x :: .int i :: .ref (tn_ad E a) :: st) σ (tn_ck i N (tn_lt (tn_sl σ a (tn_x i) x) kk)) := by
  subst hn
  intro H locs ls hP hS hl r σ' hr
  unfold tn_ck at hr
  by_cases h : i < 0 ∨ N ≤ i.toNatClampNeg
  · rw [if_pos h] at hr; cases hr
  · rw [if_neg h] at hr
    refine va_last g.ex g.by g.K hP (g.D σ) hS a 1 (tn_ws_l hk) rfl (by rw [hN]; exact h) hd (fun H1 locs1 hP1 _ hS1 => ?_)
    rw [tn_ws_set (σ' := tn_sl σ a (tn_x i) x) (by rw [tn_cell_l hk]; simp only [tn_sl, if_pos, tn_x]) tn_sl_ne] at hP1
    exact k _ H1 locs1 ls hP1 hS1 hl r σ' hr
theorem tr_ialdK (g : tn_Ok E G cc own nL R) {a : Nat} {i : Int32} {N : Nat} (n j : Nat) (hk : tn_kd a = 1) (hj : i.toNatClampNeg = j) (hN : tn_len a = N) (hi : ¬ (i < 0 ∨ N ≤ i.toNatClampNeg)) (hd : decode cc pc = .ok (.iaload, 1)) (hn : pc + 1 = n) (k : tn_V E G enc n lv (.int (σ.1 a j) :: st) σ res) : tn_V E G enc pc lv (.int i :: .ref (tn_ad E a) :: st) σ res := by
  subst hn
  subst hj
  intro H locs ls hP hS hl r σ' hr
  exact va_iald g.ex g.by g.K hP a 0 (tn_ws_i hk) rfl (by rw [hN]; exact hi) hd (k H locs ls hP hS hl r σ' hr)
theorem tr_laldK (g : tn_Ok E G cc own nL R) {a : Nat} {i : Int32} {N : Nat} (n j : Nat) (hk : tn_kd a = 2) (hj : i.toNatClampNeg = j) (hN : tn_len a = N) (hi : ¬ (i < 0 ∨ N ≤ i.toNatClampNeg)) (hd : decode cc pc = .ok (.laload, 1)) (hn : pc + 1 = n) (k : tn_V E G enc n lv (.long (σ.2 a j) :: st) σ res) : tn_V E G enc pc lv (.int i :: .ref (tn_ad E a) :: st) σ res := by
  subst hn
  subst hj
  intro H locs ls hP hS hl r σ' hr
  exact va_lald g.ex g.by g.K hP a 1 (tn_ws_l hk) rfl (by rw [hN]; exact hi) hd (k H locs ls hP hS hl r σ' hr)
theorem tr_iastK (g : tn_Ok E G cc own nL R) {a : Nat} {i x : Int32} {N : Nat} (n j : Nat) (hk : tn_kd a = 1) (hj : i.toNatClampNeg = j) (hN : tn_len a = N) (hi : ¬ (i < 0 ∨ N ≤ i.toNatClampNeg)) (hd : decode cc pc = .ok (.iastore, 1)) (hn : pc + 1 = n) {kk : tn_M → Option (ρ × tn_M)} (k : ∀ σ1, tn_V E G enc n lv st σ1 (kk σ1)) : tn_V E G enc pc lv (.int x :: .int i :: .ref (tn_ad E a) :: st) σ (tn_lt (tn_si σ a j x) kk) := by
  subst hj
  have h := tr_iast (E := E) (G := G) (enc := enc) (lv := lv) (st := st) (σ := σ) (i := i) (x := x) g n hk hN hd hn k
  unfold tn_ck at h
  rw [if_neg hi] at h
  exact h
theorem tr_lastK (g : tn_Ok E G cc own nL R) {a : Nat} {i : Int32} {x : Int64} {N : Nat} (n j : Nat) (hk : tn_kd a = 2) (hj : i.toNatClampNeg = j) (hN : tn_len a = N) (hi : ¬ (i < 0 ∨ N ≤ i.toNatClampNeg)) (hd : decode cc pc = .ok (.lastore, 1)) (hn : pc + 1 = n) {kk : tn_M → Option (ρ × tn_M)} (k : ∀ σ1, tn_V E G enc n lv st σ1 (kk σ1)) : tn_V E G enc pc lv (.long x :: .int i :: .ref (tn_ad E a) :: st) σ (tn_lt (tn_sl σ a j x) kk) := by
  subst hj
  have h := tr_last (E := E) (G := G) (enc := enc) (lv := lv) (st := st) (σ := σ) (i := i) (x := x) g n hk hN hd hn k
  unfold tn_ck at h
  rw [if_neg hi] at h
  exact h
theorem tr_haldK (g : tn_Ok E G cc own nL R) {i : Int32} {v : Int32} (n : Nat) (hi : ¬ (i < 0 ∨ 8 ≤ i.toNatClampNeg)) (hv : tn_hi i.toNatClampNeg = v) (hd : decode cc pc = .ok (.iaload, 1)) (hn : pc + 1 = n) (k : tn_V E G enc n lv (.int v :: st) σ res) : tn_V E G enc pc lv (.int i :: .ref E.2.2.2.2.2 :: st) σ res := by
  subst hn
  subst hv
  intro H locs ls hP hS hl r σ' hr
  exact va_ti g.ex g.by g.Z.2.1 hS hi rfl hd (k H locs ls hP hS hl r σ' hr)
theorem tr_alen (g : tn_Ok E G cc own nL R) {a : Nat} {v : Int32} (n : Nat) (hk : tn_kd a = 1) (hv : Int32.ofNat (tn_len a) = v) (hd : decode cc pc = .ok (.arraylength, 1)) (hn : pc + 1 = n) (k : tn_V E G enc n lv (.int v :: st) σ res) : tn_V E G enc pc lv (.ref (tn_ad E a) :: st) σ res := by
  subst hn
  intro H locs ls hP hS hl r σ' hr
  exact va_alen g.ex g.by g.K hP a 0 (tn_ws_i hk) rfl hv hd (k H locs ls hP hS hl r σ' hr)
theorem tr_alenl (g : tn_Ok E G cc own nL R) {a : Nat} {v : Int32} (n : Nat) (hk : tn_kd a = 2) (hv : Int32.ofNat (tn_len a) = v) (hd : decode cc pc = .ok (.arraylength, 1)) (hn : pc + 1 = n) (k : tn_V E G enc n lv (.int v :: st) σ res) : tn_V E G enc pc lv (.ref (tn_ad E a) :: st) σ res := by
  subst hn
  intro H locs ls hP hS hl r σ' hr
  exact va_alen g.ex g.by g.K hP a 1 (tn_ws_l hk) rfl hv hd (k H locs ls hP hS hl r σ' hr)
theorem tr_hget (g : tn_Ok E G cc own nL R) {i : Nat} (hw : Cond.fieldLink own i RX4 "HIGHEST" "[I" ∈ tn_T) (n : Nat) (hd : decode cc pc = .ok (.getstatic i, 3)) (hn : pc + 3 = n) (k : tn_V E G enc n lv (.ref E.2.2.2.2.2 :: st) σ res) : tn_V E G enc pc lv st σ res := by
  subst hn
  intro H locs ls hP hS hl r σ' hr
  exact va_gets g.ex g.by g.Z.1 hS g.ow (g.ts _ hw) (fun _ h => h) hd (k H locs ls hP hS hl r σ' hr)
theorem tr_hald (g : tn_Ok E G cc own nL R) {i : Int32} (n : Nat) (hd : decode cc pc = .ok (.iaload, 1)) (hn : pc + 1 = n) (k : tn_V E G enc n lv (.int (tn_hi (tn_x i)) :: st) σ res) : tn_V E G enc pc lv (.int i :: .ref E.2.2.2.2.2 :: st) σ (tn_ck i 8 res) := by
  subst hn
  intro H locs ls hP hS hl r σ' hr
  unfold tn_ck at hr
  by_cases h : i < 0 ∨ 8 ≤ i.toNatClampNeg
  · rw [if_pos h] at hr; cases hr
  · rw [if_neg h] at hr
    exact va_ti g.ex g.by g.Z.2.1 hS h rfl hd (k H locs ls hP hS hl r σ' hr)
theorem tr_get (g : tn_Ok E G cc own nL R) {C : String} {T : u_T} {N ci i : Nat} (hin : ∀ w ∈ u_ws C T N, w ∈ tn_T) (hc : classes[ci]? = some (C, T, N)) {a j : Nat} {v : Value} (ha : a < 6) (hci : (tn_fs E σ a).1 = ci) (hj : j < N) (hw : Cond.fieldLink own i (T j).1 (T j).2.1 (T j).2.2.1 ∈ tn_T) (hv : (tn_fs E σ a).2[j]? = some v) (n : Nat) (hd : decode cc pc = .ok (.getfield i, 3)) (hn : pc + 3 = n) (k : tn_V E G enc n lv (v :: st) σ res) : tn_V E G enc pc lv (.ref (tn_ad E a) :: st) σ res := by
  subst hn
  subst hci
  intro H locs ls hP hS hl r σ' hr
  exact va_get g.ex g.by g.ts hin g.ow g.K hP a (tn_ws_o ha) hc j hj (g.ts _ hw) (fun _ h => h) hv hd (k H locs ls hP hS hl r σ' hr)
theorem tr_put (g : tn_Ok E G cc own nL R) {C : String} {T : u_T} {N ci i : Nat} (hin : ∀ w ∈ u_ws C T N, w ∈ tn_T) (ty0 : Nat → FieldType) (hty : ∀ k, k < N → parseFieldDescriptor (T k).2.2.1 = some (ty0 k)) (hnm : ∀ a, a < N → ∀ b, b < N → a ≠ b → (T a).2.1 ≠ (T b).2.1) (hc : classes[ci]? = some (C, T, N)) {a j : Nat} {v : Value} {σ2 : tn_M} (ha : a < 6) (hci : (tn_fs E σ a).1 = ci) (hj : j < N) (hw : Cond.fieldLink own i (T j).1 (T j).2.1 (T j).2.2.1 ∈ tn_T) (hfin : (T j).2.2.2 = false) {ty : FieldType} (hpd : parseFieldDescriptor (T j).2.2.1 = some ty) (hnv : narrow ty v = v) (hfit : fits ty v = true) (hlen : j < (tn_fs E σ a).2.length) (hcell : tn_fs E σ2 a = (ci, (tn_fs E σ a).2.set j v)) (hoth : ∀ b, b ≠ a → σ2.1 b = σ.1 b ∧ σ2.2 b = σ.2 b) (n : Nat) (hd : decode cc pc = .ok (.putfield i, 3)) (hn : pc + 3 = n) {kk : tn_M → Option (ρ × tn_M)} (k : ∀ σ1, tn_V E G enc n lv st σ1 (kk σ1)) : tn_V E G enc pc lv (v :: .ref (tn_ad E a) :: st) σ (tn_lt σ2 kk) := by
  subst hn
  subst hci
  intro H locs ls hP hS hl r σ' hr
  refine va_put g.ex g.by g.ts hin ty0 hty hnm g.ow g.K hP (g.D σ) hS a (tn_ws_o ha) hc j hj (g.ts _ hw) (fun _ h => h) hfin hpd hnv hfit hlen hd (fun H1 locs1 hP1 _ hS1 => ?_)
  have hk0 : tn_kd a = 0 := by
    rcases (by omega : a = 0 ∨ a = 1 ∨ a = 2 ∨ a = 3 ∨ a = 4 ∨ a = 5) with rfl | rfl | rfl | rfl | rfl | rfl <;> rfl
  rw [tn_ws_set (σ' := σ2) (by rw [tn_cell_o hk0]; exact congrArg Sum.inr hcell) hoth] at hP1
  exact k _ H1 locs1 ls hP1 hS1 hl r σ' hr
end TNR

/-! contracts and calls -/
def tn_Qc (E : tn_E) (r : Option Value) (σ' : tn_M) : Array Value → State → Outcome → State → Prop := fun _ st o t => (o = .returned r ∧ tn_St E σ' t) ∧ va_F (tn_A E) st t
def tn_C (E : tn_E) (l : Launch) (y : MethodName) (bytes : ByteArray) (maxL : Nat) (ret : Option FieldType) (rm : Room) (As : List Value) (σ : tn_M) (r : Option Value) (σ' : tn_M) : Prop :=
  Met l y (Cond.code y bytes maxL ret :: tn_T) rm (va_Pc As (fun U => tn_St E σ U)) (tn_Qc E r σ') 0 0 (tn_A E)
/-- a frame of one of our methods: how it ends -/
def tn_Om (E : tn_E) (G : tn_G) (ret : Option FieldType) : Prop := (tg_Q G = fun r σ' => MQ (tg_b G) (tn_Qc E r σ') (tg_a G) (tg_s G) (tg_k G) (tg_z G) (tn_A E)) ∧ tg_A G = tn_A E ∧ (tg_h G).sig.returnType = ret ∧ (tg_h G).locks = false
theorem tn_St_moved {E : tn_E} {σ : tn_M} {u U : State} (hq : u.vm = U.vm) (hh : U.heap = u.heap) (h : tn_St E σ u) : tn_St E σ U := by
  obtain ⟨h1, h2, h3, h4, h5, h6⟩ := h
  have hvm : u.vm.Alike U.vm := by rw [hq]; exact Vm.Alike.refl _
  exact ⟨by rw [hh]; exact h1, va_K.moved hvm h2, h3, by rw [hh]; exact va_Z.moved hvm h4, by rw [hh]; exact va_T.moved hvm h5, va_Nw.same rfl hq h6⟩
theorem tn_end {E : tn_E} {G : tn_G} {cc : ByteArray} {own : String} {nL : Nat} {R : Room} {ret : Option FieldType} (g : tn_Ok E G cc own nL R) (o : tn_Om E G ret) {H : Heap} {locs : List Loc} {σ : tn_M} {r : Option Value} (hP : va_P E.2.1 classes (tn_ws E σ) H) (hS : va_S (tg_A G) (tg_s G).heap H locs) : ∀ t : State, t.heap = H → (tg_s G).WarmedH t.vm → tn_Qc E r σ (tg_a G) (tg_s G) (.returned r) t := by
  intro t ht hW
  have hA := o.2.1
  have hq : ∀ a : Nat, a < (tg_s G).heap.size → ¬ tg_A G a → t.heap[a]? = (tg_s G).heap[a]? := fun a h1 h2 => by rw [ht]; exact hS.2.1 a h1 h2
  obtain ⟨hz, hT, hN⟩ := g.Z
  refine ⟨⟨rfl, by rw [ht]; exact hP, va_K.moved hW.alike g.K, g.inj, ?_, ?_, va_Nw.warmM hW hN⟩, ?_⟩
  · have := va_Z.moved hW.alike (va_Z.kept hz hq)
    rw [hA] at this
    exact this
  · have := va_T.moved hW.alike (va_T.kept hT hq)
    rw [hA] at this
    exact this
  · rw [hA] at hS
    exact hS.F ht
section TNE
variable {E : tn_E} {G : tn_G} {cc : ByteArray} {own : String} {nL : Nat} {R : Room} {pc : Nat} {lv : List (Nat × Value)} {σ : tn_M}
theorem tr_iret (g : tn_Ok E G cc own nL R) (o : tn_Om E G (some .int)) {v : Int32} (hd : decode cc pc = .ok (.ireturn, 1)) : tn_V E G tn_ie pc lv [.int v] σ (some (v, σ)) := by
  intro H locs ls hP hS hl r σ' hr
  cases hr
  rw [o.1]
  exact W.iret g.ex g.by o.2.2.1 (tn_end g o hP hS) (by rw [← o.2.1]; exact hS.2.2) hd o.2.2.2
theorem tr_zret (g : tn_Ok E G cc own nL R) (o : tn_Om E G (some .boolean)) {v : Int32} (hv : narrow .boolean (.int v) = .int v) (hd : decode cc pc = .ok (.ireturn, 1)) : tn_V E G tn_ie pc lv [.int v] σ (some (v, σ)) := by
  intro H locs ls hP hS hl r σ' hr
  cases hr
  rw [o.1]
  exact W.zret g.ex g.by o.2.2.1 hv (tn_end g o hP hS) (by rw [← o.2.1]; exact hS.2.2) hd o.2.2.2
theorem tr_zretv (g : tn_Ok E G cc own nL R) (o : tn_Om E G (some .boolean)) {v : Int32} (hd : decode cc pc = .ok (.ireturn, 1)) : tn_V E G tn_ie pc lv [.int v] σ (tn_zr v σ) := by
  unfold tn_zr
  by_cases h : v = 0 ∨ v = 1
  · rw [if_pos h]
    refine tr_zret g o ?_ hd
    rcases h with rfl | rfl <;> rfl
  · rw [if_neg h]
    exact tr_none
theorem tr_lret (g : tn_Ok E G cc own nL R) (o : tn_Om E G (some .long)) {v : Int64} (hd : decode cc pc = .ok (.lreturn, 1)) : tn_V E G tn_le pc lv [.long v] σ (some (v, σ)) := by
  intro H locs ls hP hS hl r σ' hr
  cases hr
  rw [o.1]
  exact W.lret g.ex g.by o.2.2.1 (tn_end g o hP hS) (by rw [← o.2.1]; exact hS.2.2) hd o.2.2.2
theorem tr_vret (g : tn_Ok E G cc own nL R) (o : tn_Om E G none) (hd : decode cc pc = .ok (.return_, 1)) : tn_V E G tn_ve pc lv [] σ (some ((), σ)) := by
  intro H locs ls hP hS hl r σ' hr
  cases hr
  rw [o.1]
  exact W.vret g.ex g.by o.2.2.1 (tn_end g o hP hS) (by rw [← o.2.1]; exact hS.2.2) hd o.2.2.2
theorem tr_aret (g : tn_Ok E G cc own nL R) {C : String} (o : tn_Om E G (some (.object C))) {a : Nat} (hd : decode cc pc = .ok (.areturn, 1)) : tn_V E G (tn_re a) pc lv [.ref a] σ (some ((), σ)) := by
  intro H locs ls hP hS hl r σ' hr
  cases hr
  rw [o.1]
  exact W.aret g.ex g.by o.2.2.1 (Or.inl ⟨_, rfl⟩) (Or.inr ⟨_, rfl⟩) (tn_end g o hP hS) (by rw [← o.2.1]; exact hS.2.2) hd o.2.2.2
end TNE
theorem tn_met {E : tn_E} {l : Launch} {y : MethodName} {bytes : ByteArray} {maxL : Nat} {ret : Option FieldType} {rm : Room} {As : List Value} {σ : tn_M} {ρ : Type} {enc : ρ → Option Value} {res : Option (ρ × tn_M)} (hy : plainName y.cls = true) (hn : (lg_sl As).length ≤ maxL)
    (body : ∀ G : tn_G, tg_l G = l → tn_Ok E G bytes y.cls maxL rm → tn_Om E G ret → tn_V E G enc 0 (lv_args 0 As) [] σ res) {r : ρ} {σ' : tn_M} (hr : res = some (r, σ')) : tn_C E l y bytes maxL ret rm As σ (enc r) σ' := by
  refine Met.ofW (cc := bytes) (maxL := maxL) (ret := ret) hy rfl ?_
  intro p e s m args below meth c s₁ B hml hv
  obtain ⟨rfl, hP, hK, hi, hZ⟩ := hv
  have hts := atoms_spec (ws := Cond.code y bytes maxL ret :: tn_T) B.pre
  have hown : s.vm.findClass y.cls = some m.cls := findClass_of_methodNamed B.named
  have hl := lv_entry As (n := maxL) hn
  rw [lg_entry_eq]
  have hb := body (p, l, e, rm, s, m, As.toArray, below, meth, c, 0, 0, maxL, tn_A E, fun r σ' => MQ below (tn_Qc E r σ') As.toArray s 0 0 (tn_A E)) rfl ⟨B.exec, B.bytes, hml, rfl, hown, fun w hw => hts w (List.mem_cons_of_mem _ hw), hK, hi, fun k hk => ⟨k, hk, rfl⟩, hZ, rfl, Nat.zero_le _, Nat.zero_le _⟩ ⟨rfl, rfl, B.returns, B.notSynchronized⟩
  exact hb s.heap [] _ hP va_S.rf hl r σ' hr

