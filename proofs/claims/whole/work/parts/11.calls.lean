/-! calls over the world -/
theorem tn_goodIn {c : Cond} (h : c ∈ tn_T) : GoodIn tn_T (c :: tn_T) := by
  intro w hw
  have hm : w ∈ tn_T := by
    rcases List.mem_cons.mp hw with rfl | hw
    · exact h
    · exact hw
  exact ⟨hm, good_of_word (List.mem_filter.mp hm).2⟩
/-- what the tables say of an instance method, of a static one -/
def tn_Yv (C : String) (y : MethodName) (bytes : ByteArray) (maxL : Nat) (ret : Option FieldType) (na : Nat) : Prop :=
  Cond.code y bytes maxL ret ∈ tn_T ∧ Cond.instanceMethod y ∈ tn_T ∧ Cond.selects C y y ∈ tn_T ∧ Cond.initialized y.cls ∈ tn_T ∧ (y.cls ≠ "java/lang/invoke/MethodHandle" ∧ y.cls ≠ "java/lang/invoke/VarHandle" ∧ (parseMethodDescriptor y.desc).map (fun d => d.parameters.length) = some na)
def tn_Ys (y : MethodName) (bytes : ByteArray) (maxL : Nat) (ret : Option FieldType) (na : Nat) : Prop :=
  Cond.code y bytes maxL ret ∈ tn_T ∧ Cond.static y ∈ tn_T ∧ Cond.initialized y.cls ∈ tn_T ∧ (y.cls ≠ "java/lang/invoke/MethodHandle" ∧ y.cls ≠ "java/lang/invoke/VarHandle" ∧ (parseMethodDescriptor y.desc).map (fun d => d.parameters.length) = some na)
section TNC
variable {E : tn_E} {G : tn_G} {cc : ByteArray} {own : String} {nL : Nat} {R : Room} {ρ : Type} {enc : ρ → Option Value} {pc : Nat} {lv : List (Nat × Value)} {st : List Value} {σ : tn_M}
theorem tn_atU (g : tn_Ok E G cc own nL R) {H : Heap} {locs : List Loc} (hP : va_P E.2.1 classes (tn_ws E σ) H) (hS : va_S (tg_A G) (tg_s G).heap H locs) (U : State) (hU : U.heap = H) (hW : (tg_s G).WarmedH U.vm) : tn_St E σ U := by
  have hq : ∀ a : Nat, a < (tg_s G).heap.size → ¬ tg_A G a → U.heap[a]? = (tg_s G).heap[a]? := fun a h1 h2 => by rw [hU]; exact hS.2.1 a h1 h2
  have hA : ∀ q, tn_A E q → tg_A G q := fun q ⟨k, hk, e⟩ => by rw [e]; exact g.A k hk
  obtain ⟨hz, hT, hN⟩ := g.Z
  exact ⟨by rw [hU]; exact hP, va_K.moved hW.alike g.K, g.inj, (va_Z.moved hW.alike (va_Z.kept hz hq)).narrow hA, (va_T.moved hW.alike (va_T.kept hT hq)).narrow hA, va_Nw.warmM hW hN⟩
theorem tn_blind {As : List Value} : FrameBlind (va_Pc As (fun U => tn_St E σ U)) := fun a U g mk q => ⟨q.1, tn_St_moved rfl rfl q.2⟩
/-- behind a call -/
theorem tn_behind (g : tn_Ok E G cc own nL R) {H : Heap} {locs : List Loc} {σ1 : tn_M} {r1 : Option Value} {a : Array Value} {st0 : List Value} {pcq : Nat} {ls : Array Slot} {Q : State → Prop} (hS : va_S (tg_A G) (tg_s G).heap H locs)
    (hr : va_Run (tg_p G) (tg_l G) (tg_e G) (tg_R G) (tg_s G) (tg_m G) (tg_a G) (tg_b G) (tg_h G) (tg_c G) H locs (tg_k G) (tg_z G) 0 0 (F0 (tg_m G) pcq ls st0) st (tn_Qc E r1 σ1 a) (tn_A E))
    (kk : ∀ (H1 : Heap) (locs1 : List Loc), va_P E.2.1 classes (tn_ws E σ1) H1 → va_S (tg_A G) (tg_s G).heap H1 locs1 → tg_W G H1 locs1 Q (F0 (tg_m G) (pcq + 3) ls (r1.toList ++ st))) : tg_W G H locs Q (F0 (tg_m G) pcq ls st0) := by
  intro T hT X
  obtain ⟨v, st₀, t, T', L, h0, X', hL, e1, e2, ⟨⟨hv, hw⟩, hz, hk⟩, stp⟩ := hr T hT X
  have hA : ∀ q, tn_A E q → tg_A G q := fun q ⟨k, hk, e⟩ => by rw [e]; exact g.A k hk
  have hv' : v = r1 := by cases hv; rfl
  subst hv'
  rw [h0] at hz hk
  have hP1 : va_P E.2.1 classes (tn_ws E σ1) T'.heap := by rw [e1]; exact hw.1
  have hS1 : va_S (tg_A G) (tg_s G).heap T'.heap (locs ++ L) := by
    refine ⟨Nat.le_trans hS.1 (by rw [e1]; exact hz), fun q h1 h2 => ?_, fun q hq => ?_⟩
    · rw [e1, hk q (Nat.lt_of_lt_of_le h1 hS.1) (fun z => h2 (hA q z))]
      exact hS.2.1 q h1 h2
    · rcases List.mem_append.mp hq with h | h
      · exact hS.2.2 q h
      · exact hA _ (hL q h)
  obtain ⟨t2, a1, b1⟩ := kk T'.heap (locs ++ L) hP1 hS1 T' rfl X'
  exact ⟨t2, stp t2 a1, b1⟩
theorem tr_callV (g : tn_Ok E G cc own nL R) {C : String} {y : MethodName} {bytes : ByteArray} {maxL : Nat} {ret : Option FieldType} {rm : Room} {ρ1 : Type} {enc1 : ρ1 → Option Value} {fres : Option (ρ1 × tn_M)} {kk : ρ1 → tn_M → Option (ρ × tn_M)} {T : u_T} {N ci a i na : Nat} {As stk : List Value}
    (hY : tn_Yv C y bytes maxL ret na) (hw : Cond.methodLink own i y ∈ tn_T) (hc : classes[ci]? = some (C, T, N)) (ha : a < 6) (hci : (tn_fs E σ a).1 = ci)
    (hM : ∀ r σ1, fres = some (r, σ1) → tn_C E (tg_l G) y bytes maxL ret rm (.ref (tn_ad E a) :: As) σ (enc1 r) σ1)
    (hr0 : rm.cells = 0 ∧ rm.slots = 0) (hroom : rm.frames + 1 ≤ R.frames ∧ 8 + (maxL + 11) + rm.locals ≤ R.locals) (hna : As.length = na) (hst : stk = As.reverse ++ .ref (tn_ad E a) :: st) (hW : (st.map fun v => v.category).sum ≤ 8)
    (n : Nat) (hd : decode cc pc = .ok (.invokevirtual i, 3)) (hn : pc + 3 = n) (k : ∀ r σ1, tn_V E G enc n lv ((enc1 r).toList ++ st) σ1 (kk r σ1)) : tn_V E G enc pc lv stk σ (tn_bd fres kk) := by
  subst hn
  subst hst
  intro H locs ls hP hS hl r σ' hr
  cases hf : fres with
  | none => rw [hf] at hr; cases hr
  | some q =>
    obtain ⟨r1, σ1⟩ := q
    rw [hf] at hr
    have hR := g.rm
    obtain ⟨hY1, hY2, hY3, hY4, hY5, hY6, hY7⟩ := hY
    have hcells : tg_k G + 0 ≤ (tg_R G).cells ∧ tg_z G + 0 ≤ (tg_R G).slots := by rw [hR]; exact g.2.2.2.2.2.2.2.2.2.2.2
    refine tn_behind g hS (va_runV (As := As) (rest := st) (C := C) ⟨g.ex, g.by, g.ml, g.ow, g.ts⟩ (hM r1 σ1 hf) ⟨callB_of (Ts := tn_T) (ws := Cond.code y bytes maxL ret :: tn_T) na g.ts (tn_goodIn hY1) rfl hr0.1 hr0.2 (g.ts _ hY4) (g.ts _ hw) ⟨hY5, hY6, hY7⟩ (by rw [hR]; exact hroom), g.ts _ hY2, g.ts _ hY3⟩ ⟨tn_blind, ?_, fun U hU hW => ⟨rfl, tn_atU g hP hS U hU hW⟩⟩ rfl hna (hl.1.trans g.nl) rfl (lv_room hW) hd hcells) (fun H1 locs1 hP1 hS1 => k r1 σ1 H1 locs1 ls hP1 hS1 hl r σ' hr)
    obtain ⟨rr, h1, cell, q1, q2, q3, q4⟩ := hP a _ (tn_ws_o ha)
    subst hci
    have hrr : rr = (C, T, N) := Option.some.inj (h1.symm.trans hc)
    subst hrr
    obtain ⟨-, hfc, -⟩ := g.K.1 _ _ hc
    exact ⟨cell, q1, by rw [q3]; rfl, by rw [q2]; exact hfc⟩
theorem tr_callS (g : tn_Ok E G cc own nL R) {y : MethodName} {bytes : ByteArray} {maxL : Nat} {ret : Option FieldType} {rm : Room} {ρ1 : Type} {enc1 : ρ1 → Option Value} {fres : Option (ρ1 × tn_M)} {kk : ρ1 → tn_M → Option (ρ × tn_M)} {i na : Nat} {As stk : List Value}
    (hY : tn_Ys y bytes maxL ret na) (hw : Cond.methodLink own i y ∈ tn_T)
    (hM : ∀ r σ1, fres = some (r, σ1) → tn_C E (tg_l G) y bytes maxL ret rm As σ (enc1 r) σ1)
    (hr0 : rm.cells = 0 ∧ rm.slots = 0) (hroom : rm.frames + 1 ≤ R.frames ∧ 8 + (maxL + 11) + rm.locals ≤ R.locals) (hna : As.length = na) (hst : stk = As.reverse ++ st) (hW : (st.map fun v => v.category).sum ≤ 8)
    (n : Nat) (hd : decode cc pc = .ok (.invokestatic i, 3)) (hn : pc + 3 = n) (k : ∀ r σ1, tn_V E G enc n lv ((enc1 r).toList ++ st) σ1 (kk r σ1)) : tn_V E G enc pc lv stk σ (tn_bd fres kk) := by
  subst hn
  subst hst
  intro H locs ls hP hS hl r σ' hr
  cases hf : fres with
  | none => rw [hf] at hr; cases hr
  | some q =>
    obtain ⟨r1, σ1⟩ := q
    rw [hf] at hr
    have hR := g.rm
    obtain ⟨hY1, hY2, hY4, hY5, hY6, hY7⟩ := hY
    have hcells : tg_k G + 0 ≤ (tg_R G).cells ∧ tg_z G + 0 ≤ (tg_R G).slots := by rw [hR]; exact g.2.2.2.2.2.2.2.2.2.2.2
    exact tn_behind g hS (va_runS (As := As) (rest := st) ⟨g.ex, g.by, g.ml, g.ow, g.ts⟩ (hM r1 σ1 hf) ⟨callB_of (Ts := tn_T) (ws := Cond.code y bytes maxL ret :: tn_T) na g.ts (tn_goodIn hY1) rfl hr0.1 hr0.2 (g.ts _ hY4) (g.ts _ hw) ⟨hY5, hY6, hY7⟩ (by rw [hR]; exact hroom), g.ts _ hY2⟩ ⟨tn_blind, fun U hU hW => ⟨rfl, tn_atU g hP hS U hU hW⟩⟩ rfl hna (hl.1.trans g.nl) rfl (lv_room hW) hd hcells) (fun H1 locs1 hP1 hS1 => k r1 σ1 H1 locs1 ls hP1 hS1 hl r σ' hr)
theorem tr_callN (g : tn_Ok E G cc RX0 nL R) {bytes : ByteArray} {maxL : Nat} {ret : Option FieldType} {rm : Room} {ρ1 : Type} {enc1 : ρ1 → Option Value} {fres : Option (ρ1 × tn_M)} {kk : ρ1 → tn_M → Option (ρ × tn_M)} {na : Nat} {As stk : List Value}
    (hY : tn_Ys yX4_ceiling bytes maxL ret na)
    (hM : ∀ r σ1, fres = some (r, σ1) → tn_C E (tg_l G) yX4_ceiling bytes maxL ret rm As σ (enc1 r) σ1)
    (hr0 : rm.cells = 0 ∧ rm.slots = 0) (hroom : rm.frames + 1 ≤ R.frames ∧ 8 + (maxL + 11) + rm.locals ≤ R.locals) (hna : As.length = na) (hst : stk = As.reverse ++ st) (hW : (st.map fun v => v.category).sum ≤ 8)
    (n : Nat) (hd : decode cc pc = .ok (.invokestatic 132, 3)) (hn : pc + 3 = n) (k : ∀ r σ1, tn_V E G enc n lv ((enc1 r).toList ++ st) σ1 (kk r σ1)) : tn_V E G enc pc lv stk σ (tn_bd fres kk) := by
  subst hn
  subst hst
  intro H locs ls hP hS hl r σ' hr
  cases hf : fres with
  | none => rw [hf] at hr; cases hr
  | some q =>
    obtain ⟨r1, σ1⟩ := q
    rw [hf] at hr
    have hR := g.rm
    obtain ⟨hY1, hY2, hY4, hY5, hY6, hY7⟩ := hY
    have hcells : tg_k G + 0 ≤ (tg_R G).cells ∧ tg_z G + 0 ≤ (tg_R G).slots := by rw [hR]; exact g.2.2.2.2.2.2.2.2.2.2.2
    exact tn_behind g hS (va_runSN (As := As) (rest := st) ⟨g.ex, g.by, g.ml, g.ow, g.ts⟩ (hM r1 σ1 hf) ⟨va_cnB (Ts := tn_T) (ws := Cond.code yX4_ceiling bytes maxL ret :: tn_T) na g.ts (tn_goodIn hY1) rfl hr0.1 hr0.2 g.Z.2.2 (g.ts _ hY4) ⟨hY5, hY6, hY7⟩ (by rw [hR]; exact hroom), g.ts _ hY2, trivial⟩ ⟨tn_blind, fun U hU hW => ⟨rfl, tn_atU g hP hS U hU hW⟩⟩ rfl hna (hl.1.trans g.nl) rfl (lv_room hW) hd hcells) (fun H1 locs1 hP1 hS1 => k r1 σ1 H1 locs1 ls hP1 hS1 hl r σ' hr)
def tn_cck {α : Type} (sp dp n : Int32) (a b : Nat) (r : Option α) : Option α := if sp < 0 ∨ dp < 0 ∨ n < 0 ∨ a < sp.toNatClampNeg + n.toNatClampNeg ∨ b < dp.toNatClampNeg + n.toNatClampNeg then none else r
theorem tr_acopy (g : tn_Ok E G cc own nL R) {ks kd : Nat} {sp dp n : Int32} {Ns Nd i : Nat} (hks : tn_kd ks = 1) (hkd : tn_kd kd = 1) (hNs : tn_len ks = Ns) (hNd : tn_len kd = Nd) (hw : Cond.methodLink own i arraycopyName ∈ tn_T) (hw1 : Cond.native arraycopyName ∈ tn_T) (hw2 : Cond.static arraycopyName ∈ tn_T) (hw3 : Cond.initialized "java/lang/System" ∈ tn_T)
    (hroom : 1 ≤ R.frames ∧ (st.map fun v => v.category).sum + (nativeFrameWords "java/lang/System" "arraycopy" 5 + 11) ≤ R.locals) (m : Nat) (hd : decode cc pc = .ok (.invokestatic i, 3)) (hn : pc + 3 = m) {kk : tn_M → Option (ρ × tn_M)} (k : ∀ σ1, tn_V E G enc m lv st σ1 (kk σ1)) : tn_V E G enc pc lv (.int n :: .int dp :: .ref (tn_ad E kd) :: .int sp :: .ref (tn_ad E ks) :: st) σ (tn_cck sp dp n Ns Nd (tn_lt (tn_cp σ ks kd (tn_x sp) (tn_x dp) (tn_x n)) kk)) := by
  subst hn
  intro H locs ls hP hS hl r σ' hr
  unfold tn_cck at hr
  by_cases h : sp < 0 ∨ dp < 0 ∨ n < 0 ∨ Ns < sp.toNatClampNeg + n.toNatClampNeg ∨ Nd < dp.toNatClampNeg + n.toNatClampNeg
  · rw [if_pos h] at hr; cases hr
  · rw [if_neg h] at hr
    simp only [not_or, Nat.not_lt] at h
    obtain ⟨h1, h2, h3, h4, h5⟩ := h
    refine va_copyi g.ex g.by (g.ml.trans (g.nl.symm.trans hl.1.symm)) g.ow (g.ts _ hw) (g.ts _ hw1) (g.ts _ hw2) (g.ts _ hw3) g.K hP (g.D σ) hS ks kd 0 0 (tn_ws_i hks) (tn_ws_i hkd) rfl rfl rfl h1 h2 h3 (by rw [hNs]; exact h4) (by rw [hNd]; exact h5) (fun _ _ => rfl) (by rw [g.rm]; exact hroom.1) (by rw [g.rm]; exact hroom.2) hd (fun H1 locs1 hP1 _ hS1 => ?_)
    rw [tn_ws_set (σ' := tn_cp σ ks kd (tn_x sp) (tn_x dp) (tn_x n)) (by rw [tn_cell_i hkd]; simp only [tn_cp, if_pos, tn_x]) tn_cp_ne] at hP1
    exact k _ H1 locs1 ls hP1 hS1 hl r σ' hr
theorem tr_mmax (g : tn_Ok E G cc own nL R) {x y : Int32} {i : Nat} {res : Option (ρ × tn_M)} (hw : Cond.methodLink own i Lib.Math.max.name ∈ tn_T) (hw1 : Cond.static Lib.Math.max.name ∈ tn_T) (hw2 : Cond.initialized "java/lang/Math" ∈ tn_T) (hw3 : Cond.code Lib.Math.max.name Lib.Math.max.code 2 (some .int) ∈ tn_T) (hroom : 1 ≤ R.frames ∧ (st.map fun v => v.category).sum + 13 ≤ R.locals) (n : Nat) (hd : decode cc pc = .ok (.invokestatic i, 3)) (hn : pc + 3 = n) (k : tn_V E G enc n lv (.int (if x < y then y else x) :: st) σ res) : tn_V E G enc pc lv (.int y :: .int x :: st) σ res := by
  subst hn
  intro H locs ls hP hS hl r σ' hr
  have hR := g.rm
  have hcells := g.2.2.2.2.2.2.2.2.2.2.2
  exact va_mmax g.ex g.by (g.ml.trans (g.nl.symm.trans hl.1.symm)) g.ow (g.ts _ hw) (g.ts _ hw1) (g.ts _ hw2) (g.ts _ hw3) (by rw [hR]; exact hroom.1) (by rw [hR]; exact hroom.2) (by rw [hR]; exact hcells.1) (by rw [hR]; exact hcells.2) hd (k H locs ls hP hS hl r σ' hr)
theorem tr_mmin (g : tn_Ok E G cc own nL R) {x y : Int32} {i : Nat} {res : Option (ρ × tn_M)} (hw : Cond.methodLink own i Lib.Math.min.name ∈ tn_T) (hw1 : Cond.static Lib.Math.min.name ∈ tn_T) (hw2 : Cond.initialized "java/lang/Math" ∈ tn_T) (hw3 : Cond.code Lib.Math.min.name Lib.Math.min.code 2 (some .int) ∈ tn_T) (hroom : 1 ≤ R.frames ∧ (st.map fun v => v.category).sum + 13 ≤ R.locals) (n : Nat) (hd : decode cc pc = .ok (.invokestatic i, 3)) (hn : pc + 3 = n) (k : tn_V E G enc n lv (.int (if y < x then y else x) :: st) σ res) : tn_V E G enc pc lv (.int y :: .int x :: st) σ res := by
  subst hn
  intro H locs ls hP hS hl r σ' hr
  have hR := g.rm
  have hcells := g.2.2.2.2.2.2.2.2.2.2.2
  exact va_mmin g.ex g.by (g.ml.trans (g.nl.symm.trans hl.1.symm)) g.ow (g.ts _ hw) (g.ts _ hw1) (g.ts _ hw2) (g.ts _ hw3) (by rw [hR]; exact hroom.1) (by rw [hR]; exact hroom.2) (by rw [hR]; exact hcells.1) (by rw [hR]; exact hcells.2) hd (k H locs ls hP hS hl r σ' hr)
theorem tr_mmaxl (g : tn_Ok E G cc own nL R) {x y : Int64} {i : Nat} {res : Option (ρ × tn_M)} (hw : Cond.methodLink own i Lib.MathLoose.max_long.x ∈ tn_T) (hw1 : Cond.static Lib.MathLoose.max_long.x ∈ tn_T) (hw2 : Cond.initialized "java/lang/Math" ∈ tn_T) (hw3 : Cond.code Lib.MathLoose.max_long.x Lib.MathLoose.max_long.code 4 (some .long) ∈ tn_T) (hroom : 1 ≤ R.frames ∧ (st.map fun v => v.category).sum + 15 ≤ R.locals) (n : Nat) (hd : decode cc pc = .ok (.invokestatic i, 3)) (hn : pc + 3 = n) (k : tn_V E G enc n lv (.long (if y < x then x else y) :: st) σ res) : tn_V E G enc pc lv (.long y :: .long x :: st) σ res := by
  subst hn
  intro H locs ls hP hS hl r σ' hr
  have hR := g.rm
  have hcells := g.2.2.2.2.2.2.2.2.2.2.2
  exact va_mmax_long g.ex g.by (g.ml.trans (g.nl.symm.trans hl.1.symm)) g.ow (g.ts _ hw) (g.ts _ hw1) (g.ts _ hw2) (g.ts _ hw3) (by rw [hR]; exact hroom.1) (by rw [hR]; exact hroom.2) (by rw [hR]; exact hcells.1) (by rw [hR]; exact hcells.2) hd (k H locs ls hP hS hl r σ' hr)
theorem tr_mabsl (g : tn_Ok E G cc own nL R) {x : Int64} {i : Nat} {res : Option (ρ × tn_M)} (hw : Cond.methodLink own i Lib.MathLoose.abs_long.x ∈ tn_T) (hw1 : Cond.static Lib.MathLoose.abs_long.x ∈ tn_T) (hw2 : Cond.initialized "java/lang/Math" ∈ tn_T) (hw3 : Cond.code Lib.MathLoose.abs_long.x Lib.MathLoose.abs_long.code 2 (some .long) ∈ tn_T) (hroom : 1 ≤ R.frames ∧ (st.map fun v => v.category).sum + 13 ≤ R.locals) (n : Nat) (hd : decode cc pc = .ok (.invokestatic i, 3)) (hn : pc + 3 = n) (k : tn_V E G enc n lv (.long (if 0 < x then x else -x) :: st) σ res) : tn_V E G enc pc lv (.long x :: st) σ res := by
  subst hn
  intro H locs ls hP hS hl r σ' hr
  have hR := g.rm
  have hcells := g.2.2.2.2.2.2.2.2.2.2.2
  exact va_mabs_long g.ex g.by (g.ml.trans (g.nl.symm.trans hl.1.symm)) g.ow (g.ts _ hw) (g.ts _ hw1) (g.ts _ hw2) (g.ts _ hw3) (by rw [hR]; exact hroom.1) (by rw [hR]; exact hroom.2) (by rw [hR]; exact hcells.1) (by rw [hR]; exact hcells.2) hd (k H locs ls hP hS hl r σ' hr)
end TNC
def tn_rm (f l : Nat) : Room := { frames := f, cells := 0, slots := 0, locals := l }
def tn_fuel : Nat := 2000
