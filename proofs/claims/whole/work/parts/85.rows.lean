/-! rows for the constructors: arrays whose class is known, arrays of arrays, their contracts -/
section GA
variable {p : Program} {l : Launch} {e : Env} {R : Room} {s : State} {m : MethodId} {args : Array Value} {below : List Frame} {meth : Method} {c : Code} {H : Heap} {locs : List Loc} {cells slots : Nat} {Q : State → Prop}
variable {cc : ByteArray} {pc : Nat} {ls : Array Slot} {rest : List Value} {D : va_G} {cl : List vw_C} {A : Nat → Prop} {tys : List (ClassId × FieldType)} {ws : va_W} {H0 : Heap}
theorem tw_newI (hexec : p.tables.exec = Jvm.exec) (hb : c.code = cc) (harr : (Cond.arrayClass .int).before args s = true) (hK : va_K D cl tys s) (t0 : Nat) {cI : ClassId} (ht : tys[t0]? = some (cI, .int)) (hP : va_P D cl ws H) (hD : va_D A ws) (hS : va_S A H0 H locs) (hA : ∀ q, H0.size ≤ q → A q) {n : Int32} {N : Nat} (hn : ¬ n < 0) (hN : n.toNatClampNeg = N) (hbytes : N * 4 ≤ 536870912) (hcells : cells + 1 ≤ R.cells) (hslots : slots + N ≤ R.slots) (hdg : decode cc pc = .ok (.newarray .int, 2))
    (kk : ∀ (q : Nat) (H1 : Heap), va_P D cl (ws ++ [(q, .inl (cI, N, .inl (fun _ => 0)))]) H1 → va_D A (ws ++ [(q, .inl (cI, N, .inl (fun _ => 0)))]) → va_S A H0 H1 locs → W p l e R s m args below meth c H1 locs (cells + 1) (slots + N) Q (F0 m (pc + 2) ls (.ref q :: rest))) : W p l e R s m args below meth c H locs cells slots Q (F0 m pc ls (.int n :: rest)) := by
  refine va_newa (atype := .int) (ty := .int) hexec hb harr rfl hK hP hD hS hA (a0 := (N, .inl (fun _ => 0))) (fun cA => rfl) hn hN hbytes hcells hslots hdg (fun q cA H1 hK1 hP1 hD1 hS1 => ?_)
  have h1 := (hK1.2 tys.length (cA, .int) (by simp)).2
  have h2 := (hK.2 t0 _ ht).2
  have h3 : some cA = some cI := h1.symm.trans h2
  cases h3
  exact kk q H1 hP1 hD1 hS1
theorem tw_newL (hexec : p.tables.exec = Jvm.exec) (hb : c.code = cc) (harr : (Cond.arrayClass .long).before args s = true) (hK : va_K D cl tys s) (t0 : Nat) {cI : ClassId} (ht : tys[t0]? = some (cI, .long)) (hP : va_P D cl ws H) (hD : va_D A ws) (hS : va_S A H0 H locs) (hA : ∀ q, H0.size ≤ q → A q) {n : Int32} {N : Nat} (hn : ¬ n < 0) (hN : n.toNatClampNeg = N) (hbytes : N * 8 ≤ 536870912) (hcells : cells + 1 ≤ R.cells) (hslots : slots + N ≤ R.slots) (hdg : decode cc pc = .ok (.newarray .long, 2))
    (kk : ∀ (q : Nat) (H1 : Heap), va_P D cl (ws ++ [(q, .inl (cI, N, .inr (.inl (fun _ => 0))))]) H1 → va_D A (ws ++ [(q, .inl (cI, N, .inr (.inl (fun _ => 0))))]) → va_S A H0 H1 locs → W p l e R s m args below meth c H1 locs (cells + 1) (slots + N) Q (F0 m (pc + 2) ls (.ref q :: rest))) : W p l e R s m args below meth c H locs cells slots Q (F0 m pc ls (.int n :: rest)) := by
  refine va_newa (atype := .long) (ty := .long) hexec hb harr rfl hK hP hD hS hA (a0 := (N, .inr (.inl (fun _ => 0)))) (fun cA => rfl) hn hN hbytes hcells hslots hdg (fun q cA H1 hK1 hP1 hD1 hS1 => ?_)
  have h1 := (hK1.2 tys.length (cA, .long) (by simp)).2
  have h2 := (hK.2 t0 _ ht).2
  have h3 : some cA = some cI := h1.symm.trans h2
  cases h3
  exact kk q H1 hP1 hD1 hS1
/-- new int[N][K] -/
theorem tw_multi (hexec : p.tables.exec = Jvm.exec) (hb : c.code = cc) {own : String} {index : Nat} (hown : s.vm.findClass own = some m.cls) (hclink : (Cond.classLink own index "[[I").before args s = true) (hover : va_Nw (.arrayOver (.array .int)) s) (harr : (Cond.arrayClass .int).before args s = true) (hK : va_K D cl tys s) (t0 : Nat) {cI : ClassId} (ht : tys[t0]? = some (cI, .int)) (hP : va_P D cl ws H) (hD : va_D A ws) (hS : va_S A H0 H locs) (hA : ∀ q, H0.size ≤ q → A q) {n k : Int32} {N K : Nat} (hn : ¬ n < 0) (hk : ¬ k < 0) (hN : n.toNatClampNeg = N) (hM : k.toNatClampNeg = K) (hb1 : N * 4 ≤ 536870912) (hb2 : K * 4 ≤ 536870912) (hcells : cells + (1 + N) ≤ R.cells) (hslots : slots + (N + N * K) ≤ R.slots) (hdg : decode cc pc = .ok (.multianewarray index 2, 4))
    (kk : ∀ (q : Nat) (r : Nat → Nat) (cA : ClassId) (H1 : Heap), va_K D cl (tys ++ [(cA, .array .int)]) s → va_P D cl (ws ++ (q, .inl (cA, N, .inr (.inr (.inr (.inr (fun i => some (r i))))))) :: (List.range N).map (fun i => (r i, .inl (cI, K, .inl (fun _ => 0))))) H1 → va_D A (ws ++ (q, .inl (cA, N, .inr (.inr (.inr (.inr (fun i => some (r i))))))) :: (List.range N).map (fun i => (r i, .inl (cI, K, .inl (fun _ => 0))))) → va_S A H0 H1 locs → W p l e R s m args below meth c H1 locs (cells + 1 + N) (slots + N + N * K) Q (F0 m (pc + 4) ls (.ref q :: rest))) : W p l e R s m args below meth c H locs cells slots Q (F0 m pc ls (.int k :: .int n :: rest)) := by
  have es : ("[" ++ (FieldType.array .int).toString) = "[[I" := by decide
  have hcy : s.vm.findClass (FieldType.array .int).toString = some cI := (hK.2 t0 _ ht).2
  refine va_mna (X := ws) (L := []) (f := fun _ => .inl (cI, 0, .inl (fun _ => 0))) (ty := .int) (cy := cI) (z := (K, .inl (fun _ => 0))) hexec hb hown (by rw [es]; exact hclink) hover harr hcy hK (by rw [show va_pl [] (fun _ => (.inl (cI, 0, .inl (fun _ => 0)) : va_E)) = [] from rfl, List.append_nil]; exact hP) (by rw [show va_pl [] (fun _ => (.inl (cI, 0, .inl (fun _ => 0)) : va_E)) = [] from rfl, List.append_nil]; exact hD) hS hA hn hk hN hM hb1 hb2 (by omega) rfl rfl hcells hslots (fun c => arrV_new c K (.int 0)) hdg (fun q r cA H1 _ _ hK1 hP1 hD1 hS1 => ?_)
  have er : va_pl ([] ++ (List.range N).map r) (vr_up (fun _ => (.inl (cI, 0, .inl (fun _ => 0)) : va_E)) ((List.range N).map r) (.inl (cI, (K, .inl (fun _ => 0))))) = (List.range N).map (fun i => (r i, (.inl (cI, K, .inl (fun _ => 0)) : va_E))) := by
    have h := vr_rows (L := []) (l := (List.range N).map r) (f := fun _ => (.inl (cI, 0, .inl (fun _ => 0)) : va_E)) (e := .inl (cI, (K, .inl (fun _ => 0)))) (fun a _ h => by cases h)
    rw [← h, List.map_map]
    rfl
  rw [er, List.append_assoc] at hP1 hD1
  have hg : (ws ++ ([(q, (.inl (cA, N, .inr (.inr (.inr (.inr (fun i => if i < N then some (r i) else none))))) : va_E))] ++ (List.range N).map (fun i => (r i, (.inl (cI, K, .inl (fun _ => 0)) : va_E)))))[ws.length]? = some (q, .inl (cA, N, .inr (.inr (.inr (.inr (fun i => if i < N then some (r i) else none)))))) := by
    rw [List.getElem?_append_right (Nat.le_refl _), Nat.sub_self]
    rfl
  have hse : ∀ y : Nat × va_E, (ws ++ ([(q, (.inl (cA, N, .inr (.inr (.inr (.inr (fun i => if i < N then some (r i) else none))))) : va_E))] ++ (List.range N).map (fun i => (r i, (.inl (cI, K, .inl (fun _ => 0)) : va_E))))).set ws.length y = ws ++ y :: (List.range N).map (fun i => (r i, (.inl (cI, K, .inl (fun _ => 0)) : va_E))) := by
    intro y
    rw [List.set_append_right _ _ (Nat.le_refl _), Nat.sub_self]
    rfl
  have hP2 := va_P_ref hP1 (g := fun i => some (r i)) hg (fun j hj => if_pos hj)
  have hD2 := hD1.set (e := .inl (cA, N, .inr (.inr (.inr (.inr (fun i => some (r i))))))) hg
  rw [hse] at hP2 hD2
  exact kk q r cA H1 hK1 hP2 hD2 hS1
end GA
theorem aov_warm {s U : State} (hW : s.WarmedH U.vm) (hZ : va_Nw (.arrayOver (.array .int)) s) : va_Nw (.arrayOver (.array .int)) U := aov_vm (u := s.setVm U.vm) (B := #[]) rfl (by rw [Cond.arrayOver_setVmC hW.alike]; exact hZ)
/-! the constructors' contracts -/
abbrev ti_N (U : State) : Prop := va_Nw (.arrayOver (.array .int)) U ∧ va_Nw (.methodLinkNest RX4 11 yX2_init RX4) U ∧ va_Nw (.methodLinkNest RX4 18 yX3_init RX4) U ∧ va_Nw (.methodLinkNest RX4 34 yX1_init RX4) U
theorem ti_N_same {u U : State} (h : u.vm = U.vm) (q : ti_N u) : ti_N U := ⟨aov_vm h q.1, va_Nw.same rfl h q.2.1, va_Nw.same rfl h q.2.2.1, va_Nw.same rfl h q.2.2.2⟩
theorem ti_N_warm {s U : State} (hW : s.WarmedH U.vm) (q : ti_N s) : ti_N U := ⟨aov_warm hW q.1, va_Nw.warmM hW q.2.1, va_Nw.warmM hW q.2.2.1, va_Nw.warmM hW q.2.2.2⟩
abbrev ti_P (D : va_G) (cI cL : ClassId) (sz : Nat) (ws : va_W) (U : State) : Prop := U.heap.size = sz ∧ va_P D classes ws U.heap ∧ va_K D classes [(cI, .int), (cL, .long)] U ∧ va_D (fun _ => True) ws ∧ ti_N U
abbrev ti_B {S : Type} (D : va_G) (A : Nat → Prop) (W : S → va_W) (tys : S → List (ClassId × FieldType)) (u : S) (t : State) : Prop := va_P D classes (W u) t.heap ∧ va_K D classes (tys u) t ∧ va_D A (W u)
abbrev ti_C (l : Launch) (y : MethodName) (bytes : ByteArray) (maxL : Nat) (rm : Room) (As : List Value) (D : va_G) (cI cL : ClassId) (sz : Nat) (ws : va_W) {S : Type} (W : S → va_W) (tys : S → List (ClassId × FieldType)) (mc ms : Nat) : Prop :=
  Met l y (Cond.code y bytes maxL none :: tn_T) rm (va_Pc As (ti_P D cI cL sz ws)) (va_Qv (fun _ : S => True) (ti_B D (va_A ws sz) W tys) (va_A ws sz)) mc ms (va_A ws sz)
theorem ti_blind {As : List Value} {D : va_G} {cI cL : ClassId} {sz : Nat} {ws : va_W} : FrameBlind (va_Pc As (ti_P D cI cL sz ws)) := fun a U g mk q => by
  obtain ⟨q0, q1, qP, qK, qD, qN⟩ := q
  exact ⟨q0, q1, qP, va_K.moved (u := U) (U := U.calling g mk a) (Vm.Alike.refl U.vm) qK, qD, ti_N_same (u := U) rfl qN⟩
theorem ti_at {As : List Value} {D : va_G} {cI cL : ClassId} {ws : va_W} {s : State} {H : Heap} (hP : va_P D classes ws H) (hK : va_K D classes [(cI, .int), (cL, .long)] s) {A : Nat → Prop} (hD : va_D A ws) (hN : ti_N s) : ∀ U : State, U.heap = H → s.WarmedH U.vm → va_Pc As (ti_P D cI cL H.size ws) As.toArray U := fun U hU hW => ⟨rfl, by rw [hU], by rw [hU]; exact hP, va_K.moved hW.alike hK, hD.weaken (fun _ _ _ _ => trivial), ti_N_warm hW hN⟩
