/-! CallGraphs$DrawnRun.steps()I -/
theorem in_X2_steps_X2 : ∀ w ∈ u_ws RX2 TX2 15, w ∈ wsX2_steps := fun w h => List.mem_cons_of_mem _ (List.mem_append_right _ h)
def p_X2_steps_0 (σ : SS) : Option (Int32) := some (σ.1 6 12)
set_option maxHeartbeats 4000000 in
set_option maxRecDepth 100000 in
theorem w_X2_steps_0 {p : Program} {l : Launch} {e : Env} {R : Room} {s : State} {m : MethodId} {args : Array Value} {below : List Frame} {meth : Method} {c : Code} {D : va_G} {ad : Nat → Nat} {cI cJ cZ : ClassId} {res : Int32} (hm : mx p s m args meth c cX2_steps 1 (some .int) wsX2_steps RX2) (hR : 0 ≤ R.frames ∧ 0 ≤ R.locals) (hK : va_K D vwCl (tyw cI cJ cZ) s) (hD : ∀ σ, va_D (aC ad) (wC ad cI cJ cZ σ)) (σ : SS) (hf : p_X2_steps_0 σ = some res) (H : Heap) (locs : List Loc) (ls : Array Slot) (hP : va_P D vwCl (wC ad cI cJ cZ σ) H) (hS : va_S (aC ad) s.heap H locs) (hl : lv_has ls 1 [(0, .ref (ad 6))]) : W p l e R s m args below meth c H locs 0 0 (MQ below (va_Qi (fun (r : Int32) (u : SS) => r = res ∧ u = σ) (fun u t => va_P D vwCl (wC ad cI cJ cZ u) t.heap) (aC ad)) args s 0 0 (aC ad)) (F0 m 0 ls []) := by
  obtain ⟨hx, hb, hr, hml, hown, hts, hlk⟩ := id hm
  unfold p_X2_steps_0 at hf
  refine lv_aload_n hx hb dX2_steps_0 rfl (lv_at hl 0 rfl) ?_
  refine va_get (D := D) (ci := 1) (v := .int (σ.1 6 12)) (C := RX2) (T := TX2) (N := 15) hx hb hts in_X2_steps_X2 hown hK hP 6 (wC_6 _ _ _ _ _) rfl 12 (by decide) (hts (.fieldLink RX2 41 "CallGraphs$DrawnRun" "steps" "I") (List.mem_of_getElem? (i := 1) rfl)) (fun _ h9 => h9) (fC_6_12 _ _) dX2_steps_1 ?_
  exact rt_i (wd := wC ad cI cJ cZ) hx hb hr hlk ⟨Option.some.inj hf, rfl⟩ hP hS dX2_steps_4
theorem hd_X2_steps : yX2_steps.cls = RX2 ∧ yX2_steps.cls ≠ "java/lang/invoke/MethodHandle" ∧ yX2_steps.cls ≠ "java/lang/invoke/VarHandle" ∧ (parseMethodDescriptor yX2_steps.desc).map (fun d => d.parameters.length) = some 0 := by decide +kernel
set_option maxHeartbeats 4000000 in
set_option maxRecDepth 100000 in
theorem c_X2_steps (l : Launch) (D : va_G) (ad : Nat → Nat) (cI cJ cZ : ClassId) (σ : SS) {res : Int32} (hf : p_X2_steps_0 σ = some res) : Met l yX2_steps wsX2_steps ({ frames := 0, cells := 0, slots := 0, locals := 0 } : Room) (PW D (tyw cI cJ cZ) (wC ad cI cJ cZ σ) [.ref (ad 6)]) (va_Qi (fun (r : Int32) (u : SS) => r = res ∧ u = σ) (fun u t => va_P D vwCl (wC ad cI cJ cZ u) t.heap) (aC ad)) 0 0 (aC ad) := by
  refine Met.ofW (cc := cX2_steps) (maxL := 1) (ret := (some .int)) (by decide) rfl ?_
  intro p e s m args below meth c s₁ B hml hv
  obtain ⟨rfl, hP, hK, hD0⟩ := hv
  have hD : ∀ σ, va_D (aC ad) (wC ad cI cJ cZ σ) := fun σ => wd_D hD0 (wC_map _ _ _ _ _) (wC_map _ _ _ _ _)
  have hm : mx p s m _ meth c cX2_steps 1 (some .int) wsX2_steps RX2 := ⟨B.exec, B.bytes, B.returns, hml, findClass_of_methodNamed B.named, atoms_spec (ws := wsX2_steps) B.pre, B.notSynchronized⟩
  have hl := lv_entry ([.ref (ad 6)]) (n := 1) (Nat.le_of_ble_eq_true rfl)
  rw [lg_entry_eq]
  generalize (lg_sl ([.ref (ad 6)]) ++ List.replicate (1 - (lg_sl ([.ref (ad 6)])).length) Slot.unset).toArray = ls at hl ⊢
  exact w_X2_steps_0 hm ⟨Nat.le_refl _, Nat.le_refl _⟩ hK hD σ hf _ _ _ hP va_S.rf hl
/-! CallGraphs$DrawnRun.ran()J -/
theorem in_X2_ran_X2 : ∀ w ∈ u_ws RX2 TX2 15, w ∈ wsX2_ran := fun w h => List.mem_cons_of_mem _ (List.mem_append_right _ h)
def p_X2_ran_0 (σ : SS) : Option (Int64) := some (σ.2 6 9)
set_option maxHeartbeats 4000000 in
set_option maxRecDepth 100000 in
theorem w_X2_ran_0 {p : Program} {l : Launch} {e : Env} {R : Room} {s : State} {m : MethodId} {args : Array Value} {below : List Frame} {meth : Method} {c : Code} {D : va_G} {ad : Nat → Nat} {cI cJ cZ : ClassId} {res : Int64} (hm : mx p s m args meth c cX2_ran 1 (some .long) wsX2_ran RX2) (hR : 0 ≤ R.frames ∧ 0 ≤ R.locals) (hK : va_K D vwCl (tyw cI cJ cZ) s) (hD : ∀ σ, va_D (aC ad) (wC ad cI cJ cZ σ)) (σ : SS) (hf : p_X2_ran_0 σ = some res) (H : Heap) (locs : List Loc) (ls : Array Slot) (hP : va_P D vwCl (wC ad cI cJ cZ σ) H) (hS : va_S (aC ad) s.heap H locs) (hl : lv_has ls 1 [(0, .ref (ad 6))]) : W p l e R s m args below meth c H locs 0 0 (MQ below (va_Ql (fun (r : Int64) (u : SS) => r = res ∧ u = σ) (fun u t => va_P D vwCl (wC ad cI cJ cZ u) t.heap) (aC ad)) args s 0 0 (aC ad)) (F0 m 0 ls []) := by
  obtain ⟨hx, hb, hr, hml, hown, hts, hlk⟩ := id hm
  unfold p_X2_ran_0 at hf
  refine lv_aload_n hx hb dX2_ran_0 rfl (lv_at hl 0 rfl) ?_
  refine va_get (D := D) (ci := 1) (v := .long (σ.2 6 9)) (C := RX2) (T := TX2) (N := 15) hx hb hts in_X2_ran_X2 hown hK hP 6 (wC_6 _ _ _ _ _) rfl 9 (by decide) (hts (.fieldLink RX2 45 "CallGraphs$DrawnRun" "ran" "J") (List.mem_of_getElem? (i := 1) rfl)) (fun _ h9 => h9) (fC_6_9 _ _) dX2_ran_1 ?_
  exact rt_l (wd := wC ad cI cJ cZ) hx hb hr hlk ⟨Option.some.inj hf, rfl⟩ hP hS dX2_ran_4
theorem hd_X2_ran : yX2_ran.cls = RX2 ∧ yX2_ran.cls ≠ "java/lang/invoke/MethodHandle" ∧ yX2_ran.cls ≠ "java/lang/invoke/VarHandle" ∧ (parseMethodDescriptor yX2_ran.desc).map (fun d => d.parameters.length) = some 0 := by decide +kernel
set_option maxHeartbeats 4000000 in
set_option maxRecDepth 100000 in
theorem c_X2_ran (l : Launch) (D : va_G) (ad : Nat → Nat) (cI cJ cZ : ClassId) (σ : SS) {res : Int64} (hf : p_X2_ran_0 σ = some res) : Met l yX2_ran wsX2_ran ({ frames := 0, cells := 0, slots := 0, locals := 0 } : Room) (PW D (tyw cI cJ cZ) (wC ad cI cJ cZ σ) [.ref (ad 6)]) (va_Ql (fun (r : Int64) (u : SS) => r = res ∧ u = σ) (fun u t => va_P D vwCl (wC ad cI cJ cZ u) t.heap) (aC ad)) 0 0 (aC ad) := by
  refine Met.ofW (cc := cX2_ran) (maxL := 1) (ret := (some .long)) (by decide) rfl ?_
  intro p e s m args below meth c s₁ B hml hv
  obtain ⟨rfl, hP, hK, hD0⟩ := hv
  have hD : ∀ σ, va_D (aC ad) (wC ad cI cJ cZ σ) := fun σ => wd_D hD0 (wC_map _ _ _ _ _) (wC_map _ _ _ _ _)
  have hm : mx p s m _ meth c cX2_ran 1 (some .long) wsX2_ran RX2 := ⟨B.exec, B.bytes, B.returns, hml, findClass_of_methodNamed B.named, atoms_spec (ws := wsX2_ran) B.pre, B.notSynchronized⟩
  have hl := lv_entry ([.ref (ad 6)]) (n := 1) (Nat.le_of_ble_eq_true rfl)
  rw [lg_entry_eq]
  generalize (lg_sl ([.ref (ad 6)]) ++ List.replicate (1 - (lg_sl ([.ref (ad 6)])).length) Slot.unset).toArray = ls at hl ⊢
  exact w_X2_ran_0 hm ⟨Nat.le_refl _, Nat.le_refl _⟩ hK hD σ hf _ _ _ hP va_S.rf hl
/-! CallGraphs$DrawnRun.poolSize()I -/
theorem in_X2_poolSize_X2 : ∀ w ∈ u_ws RX2 TX2 15, w ∈ wsX2_poolSize := fun w h => List.mem_cons_of_mem _ (List.mem_append_right _ h)
def p_X2_poolSize_0 (σ : SS) : Option (Int32) := some (σ.1 6 11)
set_option maxHeartbeats 4000000 in
set_option maxRecDepth 100000 in
theorem w_X2_poolSize_0 {p : Program} {l : Launch} {e : Env} {R : Room} {s : State} {m : MethodId} {args : Array Value} {below : List Frame} {meth : Method} {c : Code} {D : va_G} {ad : Nat → Nat} {cI cJ cZ : ClassId} {res : Int32} (hm : mx p s m args meth c cX2_poolSize 1 (some .int) wsX2_poolSize RX2) (hR : 0 ≤ R.frames ∧ 0 ≤ R.locals) (hK : va_K D vwCl (tyw cI cJ cZ) s) (hD : ∀ σ, va_D (aC ad) (wC ad cI cJ cZ σ)) (σ : SS) (hf : p_X2_poolSize_0 σ = some res) (H : Heap) (locs : List Loc) (ls : Array Slot) (hP : va_P D vwCl (wC ad cI cJ cZ σ) H) (hS : va_S (aC ad) s.heap H locs) (hl : lv_has ls 1 [(0, .ref (ad 6))]) : W p l e R s m args below meth c H locs 0 0 (MQ below (va_Qi (fun (r : Int32) (u : SS) => r = res ∧ u = σ) (fun u t => va_P D vwCl (wC ad cI cJ cZ u) t.heap) (aC ad)) args s 0 0 (aC ad)) (F0 m 0 ls []) := by
  obtain ⟨hx, hb, hr, hml, hown, hts, hlk⟩ := id hm
  unfold p_X2_poolSize_0 at hf
  refine lv_aload_n hx hb dX2_poolSize_0 rfl (lv_at hl 0 rfl) ?_
  refine va_get (D := D) (ci := 1) (v := .int (σ.1 6 11)) (C := RX2) (T := TX2) (N := 15) hx hb hts in_X2_poolSize_X2 hown hK hP 6 (wC_6 _ _ _ _ _) rfl 11 (by decide) (hts (.fieldLink RX2 49 "CallGraphs$DrawnRun" "poolCount" "I") (List.mem_of_getElem? (i := 1) rfl)) (fun _ h9 => h9) (fC_6_11 _ _) dX2_poolSize_1 ?_
  exact rt_i (wd := wC ad cI cJ cZ) hx hb hr hlk ⟨Option.some.inj hf, rfl⟩ hP hS dX2_poolSize_4
theorem hd_X2_poolSize : yX2_poolSize.cls = RX2 ∧ yX2_poolSize.cls ≠ "java/lang/invoke/MethodHandle" ∧ yX2_poolSize.cls ≠ "java/lang/invoke/VarHandle" ∧ (parseMethodDescriptor yX2_poolSize.desc).map (fun d => d.parameters.length) = some 0 := by decide +kernel
set_option maxHeartbeats 4000000 in
set_option maxRecDepth 100000 in
theorem c_X2_poolSize (l : Launch) (D : va_G) (ad : Nat → Nat) (cI cJ cZ : ClassId) (σ : SS) {res : Int32} (hf : p_X2_poolSize_0 σ = some res) : Met l yX2_poolSize wsX2_poolSize ({ frames := 0, cells := 0, slots := 0, locals := 0 } : Room) (PW D (tyw cI cJ cZ) (wC ad cI cJ cZ σ) [.ref (ad 6)]) (va_Qi (fun (r : Int32) (u : SS) => r = res ∧ u = σ) (fun u t => va_P D vwCl (wC ad cI cJ cZ u) t.heap) (aC ad)) 0 0 (aC ad) := by
  refine Met.ofW (cc := cX2_poolSize) (maxL := 1) (ret := (some .int)) (by decide) rfl ?_
  intro p e s m args below meth c s₁ B hml hv
  obtain ⟨rfl, hP, hK, hD0⟩ := hv
  have hD : ∀ σ, va_D (aC ad) (wC ad cI cJ cZ σ) := fun σ => wd_D hD0 (wC_map _ _ _ _ _) (wC_map _ _ _ _ _)
  have hm : mx p s m _ meth c cX2_poolSize 1 (some .int) wsX2_poolSize RX2 := ⟨B.exec, B.bytes, B.returns, hml, findClass_of_methodNamed B.named, atoms_spec (ws := wsX2_poolSize) B.pre, B.notSynchronized⟩
  have hl := lv_entry ([.ref (ad 6)]) (n := 1) (Nat.le_of_ble_eq_true rfl)
  rw [lg_entry_eq]
  generalize (lg_sl ([.ref (ad 6)]) ++ List.replicate (1 - (lg_sl ([.ref (ad 6)])).length) Slot.unset).toArray = ls at hl ⊢
  exact w_X2_poolSize_0 hm ⟨Nat.le_refl _, Nat.le_refl _⟩ hK hD σ hf _ _ _ hP va_S.rf hl
/-! CallGraphs$DrawnRun.begunTypes()J -/
theorem in_X2_begunTypes_X2 : ∀ w ∈ u_ws RX2 TX2 15, w ∈ wsX2_begunTypes := fun w h => List.mem_cons_of_mem _ (List.mem_append_right _ h)
def p_X2_begunTypes_0 (σ : SS) : Option (Int64) := some (σ.2 6 10)
set_option maxHeartbeats 4000000 in
set_option maxRecDepth 100000 in
theorem w_X2_begunTypes_0 {p : Program} {l : Launch} {e : Env} {R : Room} {s : State} {m : MethodId} {args : Array Value} {below : List Frame} {meth : Method} {c : Code} {D : va_G} {ad : Nat → Nat} {cI cJ cZ : ClassId} {res : Int64} (hm : mx p s m args meth c cX2_begunTypes 1 (some .long) wsX2_begunTypes RX2) (hR : 0 ≤ R.frames ∧ 0 ≤ R.locals) (hK : va_K D vwCl (tyw cI cJ cZ) s) (hD : ∀ σ, va_D (aC ad) (wC ad cI cJ cZ σ)) (σ : SS) (hf : p_X2_begunTypes_0 σ = some res) (H : Heap) (locs : List Loc) (ls : Array Slot) (hP : va_P D vwCl (wC ad cI cJ cZ σ) H) (hS : va_S (aC ad) s.heap H locs) (hl : lv_has ls 1 [(0, .ref (ad 6))]) : W p l e R s m args below meth c H locs 0 0 (MQ below (va_Ql (fun (r : Int64) (u : SS) => r = res ∧ u = σ) (fun u t => va_P D vwCl (wC ad cI cJ cZ u) t.heap) (aC ad)) args s 0 0 (aC ad)) (F0 m 0 ls []) := by
  obtain ⟨hx, hb, hr, hml, hown, hts, hlk⟩ := id hm
  unfold p_X2_begunTypes_0 at hf
  refine lv_aload_n hx hb dX2_begunTypes_0 rfl (lv_at hl 0 rfl) ?_
  refine va_get (D := D) (ci := 1) (v := .long (σ.2 6 10)) (C := RX2) (T := TX2) (N := 15) hx hb hts in_X2_begunTypes_X2 hown hK hP 6 (wC_6 _ _ _ _ _) rfl 10 (by decide) (hts (.fieldLink RX2 52 "CallGraphs$DrawnRun" "begun" "J") (List.mem_of_getElem? (i := 1) rfl)) (fun _ h9 => h9) (fC_6_10 _ _) dX2_begunTypes_1 ?_
  exact rt_l (wd := wC ad cI cJ cZ) hx hb hr hlk ⟨Option.some.inj hf, rfl⟩ hP hS dX2_begunTypes_4
theorem hd_X2_begunTypes : yX2_begunTypes.cls = RX2 ∧ yX2_begunTypes.cls ≠ "java/lang/invoke/MethodHandle" ∧ yX2_begunTypes.cls ≠ "java/lang/invoke/VarHandle" ∧ (parseMethodDescriptor yX2_begunTypes.desc).map (fun d => d.parameters.length) = some 0 := by decide +kernel
set_option maxHeartbeats 4000000 in
set_option maxRecDepth 100000 in
theorem c_X2_begunTypes (l : Launch) (D : va_G) (ad : Nat → Nat) (cI cJ cZ : ClassId) (σ : SS) {res : Int64} (hf : p_X2_begunTypes_0 σ = some res) : Met l yX2_begunTypes wsX2_begunTypes ({ frames := 0, cells := 0, slots := 0, locals := 0 } : Room) (PW D (tyw cI cJ cZ) (wC ad cI cJ cZ σ) [.ref (ad 6)]) (va_Ql (fun (r : Int64) (u : SS) => r = res ∧ u = σ) (fun u t => va_P D vwCl (wC ad cI cJ cZ u) t.heap) (aC ad)) 0 0 (aC ad) := by
  refine Met.ofW (cc := cX2_begunTypes) (maxL := 1) (ret := (some .long)) (by decide) rfl ?_
  intro p e s m args below meth c s₁ B hml hv
  obtain ⟨rfl, hP, hK, hD0⟩ := hv
  have hD : ∀ σ, va_D (aC ad) (wC ad cI cJ cZ σ) := fun σ => wd_D hD0 (wC_map _ _ _ _ _) (wC_map _ _ _ _ _)
  have hm : mx p s m _ meth c cX2_begunTypes 1 (some .long) wsX2_begunTypes RX2 := ⟨B.exec, B.bytes, B.returns, hml, findClass_of_methodNamed B.named, atoms_spec (ws := wsX2_begunTypes) B.pre, B.notSynchronized⟩
  have hl := lv_entry ([.ref (ad 6)]) (n := 1) (Nat.le_of_ble_eq_true rfl)
  rw [lg_entry_eq]
  generalize (lg_sl ([.ref (ad 6)]) ++ List.replicate (1 - (lg_sl ([.ref (ad 6)])).length) Slot.unset).toArray = ls at hl ⊢
  exact w_X2_begunTypes_0 hm ⟨Nat.le_refl _, Nat.le_refl _⟩ hK hD σ hf _ _ _ hP va_S.rf hl
/-! CallGraphs$DrawnRun.leftCalls()I -/
theorem in_X2_leftCalls_X2 : ∀ w ∈ u_ws RX2 TX2 15, w ∈ wsX2_leftCalls := fun w h => List.mem_cons_of_mem _ (List.mem_append_right _ h)
def p_X2_leftCalls_0 (σ : SS) : Option (Int32) := some (σ.1 6 13)
set_option maxHeartbeats 4000000 in
set_option maxRecDepth 100000 in
theorem w_X2_leftCalls_0 {p : Program} {l : Launch} {e : Env} {R : Room} {s : State} {m : MethodId} {args : Array Value} {below : List Frame} {meth : Method} {c : Code} {D : va_G} {ad : Nat → Nat} {cI cJ cZ : ClassId} {res : Int32} (hm : mx p s m args meth c cX2_leftCalls 1 (some .int) wsX2_leftCalls RX2) (hR : 0 ≤ R.frames ∧ 0 ≤ R.locals) (hK : va_K D vwCl (tyw cI cJ cZ) s) (hD : ∀ σ, va_D (aC ad) (wC ad cI cJ cZ σ)) (σ : SS) (hf : p_X2_leftCalls_0 σ = some res) (H : Heap) (locs : List Loc) (ls : Array Slot) (hP : va_P D vwCl (wC ad cI cJ cZ σ) H) (hS : va_S (aC ad) s.heap H locs) (hl : lv_has ls 1 [(0, .ref (ad 6))]) : W p l e R s m args below meth c H locs 0 0 (MQ below (va_Qi (fun (r : Int32) (u : SS) => r = res ∧ u = σ) (fun u t => va_P D vwCl (wC ad cI cJ cZ u) t.heap) (aC ad)) args s 0 0 (aC ad)) (F0 m 0 ls []) := by
  obtain ⟨hx, hb, hr, hml, hown, hts, hlk⟩ := id hm
  unfold p_X2_leftCalls_0 at hf
  refine lv_aload_n hx hb dX2_leftCalls_0 rfl (lv_at hl 0 rfl) ?_
  refine va_get (D := D) (ci := 1) (v := .int (σ.1 6 13)) (C := RX2) (T := TX2) (N := 15) hx hb hts in_X2_leftCalls_X2 hown hK hP 6 (wC_6 _ _ _ _ _) rfl 13 (by decide) (hts (.fieldLink RX2 55 "CallGraphs$DrawnRun" "left" "I") (List.mem_of_getElem? (i := 1) rfl)) (fun _ h9 => h9) (fC_6_13 _ _) dX2_leftCalls_1 ?_
  exact rt_i (wd := wC ad cI cJ cZ) hx hb hr hlk ⟨Option.some.inj hf, rfl⟩ hP hS dX2_leftCalls_4
theorem hd_X2_leftCalls : yX2_leftCalls.cls = RX2 ∧ yX2_leftCalls.cls ≠ "java/lang/invoke/MethodHandle" ∧ yX2_leftCalls.cls ≠ "java/lang/invoke/VarHandle" ∧ (parseMethodDescriptor yX2_leftCalls.desc).map (fun d => d.parameters.length) = some 0 := by decide +kernel
set_option maxHeartbeats 4000000 in
set_option maxRecDepth 100000 in
theorem c_X2_leftCalls (l : Launch) (D : va_G) (ad : Nat → Nat) (cI cJ cZ : ClassId) (σ : SS) {res : Int32} (hf : p_X2_leftCalls_0 σ = some res) : Met l yX2_leftCalls wsX2_leftCalls ({ frames := 0, cells := 0, slots := 0, locals := 0 } : Room) (PW D (tyw cI cJ cZ) (wC ad cI cJ cZ σ) [.ref (ad 6)]) (va_Qi (fun (r : Int32) (u : SS) => r = res ∧ u = σ) (fun u t => va_P D vwCl (wC ad cI cJ cZ u) t.heap) (aC ad)) 0 0 (aC ad) := by
  refine Met.ofW (cc := cX2_leftCalls) (maxL := 1) (ret := (some .int)) (by decide) rfl ?_
  intro p e s m args below meth c s₁ B hml hv
  obtain ⟨rfl, hP, hK, hD0⟩ := hv
  have hD : ∀ σ, va_D (aC ad) (wC ad cI cJ cZ σ) := fun σ => wd_D hD0 (wC_map _ _ _ _ _) (wC_map _ _ _ _ _)
  have hm : mx p s m _ meth c cX2_leftCalls 1 (some .int) wsX2_leftCalls RX2 := ⟨B.exec, B.bytes, B.returns, hml, findClass_of_methodNamed B.named, atoms_spec (ws := wsX2_leftCalls) B.pre, B.notSynchronized⟩
  have hl := lv_entry ([.ref (ad 6)]) (n := 1) (Nat.le_of_ble_eq_true rfl)
  rw [lg_entry_eq]
  generalize (lg_sl ([.ref (ad 6)]) ++ List.replicate (1 - (lg_sl ([.ref (ad 6)])).length) Slot.unset).toArray = ls at hl ⊢
  exact w_X2_leftCalls_0 hm ⟨Nat.le_refl _, Nat.le_refl _⟩ hK hD σ hf _ _ _ hP va_S.rf hl
/-! CallGraphs$DrawnRun.latest()I -/
theorem in_X2_latest_X2 : ∀ w ∈ u_ws RX2 TX2 15, w ∈ wsX2_latest := fun w h => List.mem_cons_of_mem _ (List.mem_append_right _ h)
def p_X2_latest_0 (σ : SS) : Option (Int32) := some (σ.1 6 14)
set_option maxHeartbeats 4000000 in
set_option maxRecDepth 100000 in
theorem w_X2_latest_0 {p : Program} {l : Launch} {e : Env} {R : Room} {s : State} {m : MethodId} {args : Array Value} {below : List Frame} {meth : Method} {c : Code} {D : va_G} {ad : Nat → Nat} {cI cJ cZ : ClassId} {res : Int32} (hm : mx p s m args meth c cX2_latest 1 (some .int) wsX2_latest RX2) (hR : 0 ≤ R.frames ∧ 0 ≤ R.locals) (hK : va_K D vwCl (tyw cI cJ cZ) s) (hD : ∀ σ, va_D (aC ad) (wC ad cI cJ cZ σ)) (σ : SS) (hf : p_X2_latest_0 σ = some res) (H : Heap) (locs : List Loc) (ls : Array Slot) (hP : va_P D vwCl (wC ad cI cJ cZ σ) H) (hS : va_S (aC ad) s.heap H locs) (hl : lv_has ls 1 [(0, .ref (ad 6))]) : W p l e R s m args below meth c H locs 0 0 (MQ below (va_Qi (fun (r : Int32) (u : SS) => r = res ∧ u = σ) (fun u t => va_P D vwCl (wC ad cI cJ cZ u) t.heap) (aC ad)) args s 0 0 (aC ad)) (F0 m 0 ls []) := by
  obtain ⟨hx, hb, hr, hml, hown, hts, hlk⟩ := id hm
  unfold p_X2_latest_0 at hf
  refine lv_aload_n hx hb dX2_latest_0 rfl (lv_at hl 0 rfl) ?_
  refine va_get (D := D) (ci := 1) (v := .int (σ.1 6 14)) (C := RX2) (T := TX2) (N := 15) hx hb hts in_X2_latest_X2 hown hK hP 6 (wC_6 _ _ _ _ _) rfl 14 (by decide) (hts (.fieldLink RX2 58 "CallGraphs$DrawnRun" "latest" "I") (List.mem_of_getElem? (i := 1) rfl)) (fun _ h9 => h9) (fC_6_14 _ _) dX2_latest_1 ?_
  exact rt_i (wd := wC ad cI cJ cZ) hx hb hr hlk ⟨Option.some.inj hf, rfl⟩ hP hS dX2_latest_4
theorem hd_X2_latest : yX2_latest.cls = RX2 ∧ yX2_latest.cls ≠ "java/lang/invoke/MethodHandle" ∧ yX2_latest.cls ≠ "java/lang/invoke/VarHandle" ∧ (parseMethodDescriptor yX2_latest.desc).map (fun d => d.parameters.length) = some 0 := by decide +kernel
set_option maxHeartbeats 4000000 in
set_option maxRecDepth 100000 in
theorem c_X2_latest (l : Launch) (D : va_G) (ad : Nat → Nat) (cI cJ cZ : ClassId) (σ : SS) {res : Int32} (hf : p_X2_latest_0 σ = some res) : Met l yX2_latest wsX2_latest ({ frames := 0, cells := 0, slots := 0, locals := 0 } : Room) (PW D (tyw cI cJ cZ) (wC ad cI cJ cZ σ) [.ref (ad 6)]) (va_Qi (fun (r : Int32) (u : SS) => r = res ∧ u = σ) (fun u t => va_P D vwCl (wC ad cI cJ cZ u) t.heap) (aC ad)) 0 0 (aC ad) := by
  refine Met.ofW (cc := cX2_latest) (maxL := 1) (ret := (some .int)) (by decide) rfl ?_
  intro p e s m args below meth c s₁ B hml hv
  obtain ⟨rfl, hP, hK, hD0⟩ := hv
  have hD : ∀ σ, va_D (aC ad) (wC ad cI cJ cZ σ) := fun σ => wd_D hD0 (wC_map _ _ _ _ _) (wC_map _ _ _ _ _)
  have hm : mx p s m _ meth c cX2_latest 1 (some .int) wsX2_latest RX2 := ⟨B.exec, B.bytes, B.returns, hml, findClass_of_methodNamed B.named, atoms_spec (ws := wsX2_latest) B.pre, B.notSynchronized⟩
  have hl := lv_entry ([.ref (ad 6)]) (n := 1) (Nat.le_of_ble_eq_true rfl)
  rw [lg_entry_eq]
  generalize (lg_sl ([.ref (ad 6)]) ++ List.replicate (1 - (lg_sl ([.ref (ad 6)])).length) Slot.unset).toArray = ls at hl ⊢
  exact w_X2_latest_0 hm ⟨Nat.le_refl _, Nat.le_refl _⟩ hK hD σ hf _ _ _ hP va_S.rf hl
/-! CallGraphs$DrawnRun.triedBy(I)J -/
theorem in_X2_triedBy_X2 : ∀ w ∈ u_ws RX2 TX2 15, w ∈ wsX2_triedBy := fun w h => List.mem_cons_of_mem _ (List.mem_append_right _ h)
def p_X2_triedBy_0 (σ : SS) (v1 : Int32) : Option (Int64) := oi v1 160 (some (σ.2 32 v1.toNatClampNeg))
set_option maxHeartbeats 4000000 in
set_option maxRecDepth 100000 in
theorem w_X2_triedBy_0 {p : Program} {l : Launch} {e : Env} {R : Room} {s : State} {m : MethodId} {args : Array Value} {below : List Frame} {meth : Method} {c : Code} {D : va_G} {ad : Nat → Nat} {cI cJ cZ : ClassId} {res : Int64} (hm : mx p s m args meth c cX2_triedBy 2 (some .long) wsX2_triedBy RX2) (hR : 0 ≤ R.frames ∧ 0 ≤ R.locals) (hK : va_K D vwCl (tyw cI cJ cZ) s) (hD : ∀ σ, va_D (aC ad) (wC ad cI cJ cZ σ)) (σ : SS) (v1 : Int32) (hf : p_X2_triedBy_0 σ v1 = some res) (H : Heap) (locs : List Loc) (ls : Array Slot) (hP : va_P D vwCl (wC ad cI cJ cZ σ) H) (hS : va_S (aC ad) s.heap H locs) (hl : lv_has ls 2 [(0, .ref (ad 6)), (1, .int v1)]) : W p l e R s m args below meth c H locs 0 0 (MQ below (va_Ql (fun (r : Int64) (u : SS) => r = res ∧ u = σ) (fun u t => va_P D vwCl (wC ad cI cJ cZ u) t.heap) (aC ad)) args s 0 0 (aC ad)) (F0 m 0 ls []) := by
  obtain ⟨hx, hb, hr, hml, hown, hts, hlk⟩ := id hm
  unfold p_X2_triedBy_0 at hf
  refine lv_aload_n hx hb dX2_triedBy_0 rfl (lv_at hl 0 rfl) ?_
  refine va_get (D := D) (ci := 1) (v := .ref (ad 32)) (C := RX2) (T := TX2) (N := 15) hx hb hts in_X2_triedBy_X2 hown hK hP 6 (wC_6 _ _ _ _ _) rfl 7 (by decide) (hts (.fieldLink RX2 21 "CallGraphs$DrawnRun" "tried" "[J") (List.mem_of_getElem? (i := 1) rfl)) (fun _ h9 => h9) (fC_6_7 _ _) dX2_triedBy_1 ?_
  refine lv_iload_n hx hb dX2_triedBy_4 rfl (lv_at hl 1 rfl) ?_
  obtain ⟨h_5, hf⟩ := oi_e hf
  refine va_lald hx hb hK hP 32 1 (wC_32 _ _ _ _ _) rfl h_5 dX2_triedBy_5 ?_
  exact rt_l (wd := wC ad cI cJ cZ) hx hb hr hlk ⟨Option.some.inj hf, rfl⟩ hP hS dX2_triedBy_6
theorem hd_X2_triedBy : yX2_triedBy.cls = RX2 ∧ yX2_triedBy.cls ≠ "java/lang/invoke/MethodHandle" ∧ yX2_triedBy.cls ≠ "java/lang/invoke/VarHandle" ∧ (parseMethodDescriptor yX2_triedBy.desc).map (fun d => d.parameters.length) = some 1 := by decide +kernel
set_option maxHeartbeats 4000000 in
set_option maxRecDepth 100000 in
theorem c_X2_triedBy (l : Launch) (D : va_G) (ad : Nat → Nat) (cI cJ cZ : ClassId) (σ : SS) (v1 : Int32) {res : Int64} (hf : p_X2_triedBy_0 σ v1 = some res) : Met l yX2_triedBy wsX2_triedBy ({ frames := 0, cells := 0, slots := 0, locals := 0 } : Room) (PW D (tyw cI cJ cZ) (wC ad cI cJ cZ σ) [.ref (ad 6), .int v1]) (va_Ql (fun (r : Int64) (u : SS) => r = res ∧ u = σ) (fun u t => va_P D vwCl (wC ad cI cJ cZ u) t.heap) (aC ad)) 0 0 (aC ad) := by
  refine Met.ofW (cc := cX2_triedBy) (maxL := 2) (ret := (some .long)) (by decide) rfl ?_
  intro p e s m args below meth c s₁ B hml hv
  obtain ⟨rfl, hP, hK, hD0⟩ := hv
  have hD : ∀ σ, va_D (aC ad) (wC ad cI cJ cZ σ) := fun σ => wd_D hD0 (wC_map _ _ _ _ _) (wC_map _ _ _ _ _)
  have hm : mx p s m _ meth c cX2_triedBy 2 (some .long) wsX2_triedBy RX2 := ⟨B.exec, B.bytes, B.returns, hml, findClass_of_methodNamed B.named, atoms_spec (ws := wsX2_triedBy) B.pre, B.notSynchronized⟩
  have hl := lv_entry ([.ref (ad 6), .int v1]) (n := 2) (Nat.le_of_ble_eq_true rfl)
  rw [lg_entry_eq]
  generalize (lg_sl ([.ref (ad 6), .int v1]) ++ List.replicate (2 - (lg_sl ([.ref (ad 6), .int v1])).length) Slot.unset).toArray = ls at hl ⊢
  exact w_X2_triedBy_0 hm ⟨Nat.le_refl _, Nat.le_refl _⟩ hK hD σ v1 hf _ _ _ hP va_S.rf hl
/-! CallGraphs$DrawnRun.pooledClasses()J -/
theorem in_X2_pooledClasses_X2 : ∀ w ∈ u_ws RX2 TX2 15, w ∈ wsX2_pooledClasses := fun w h => List.mem_cons_of_mem _ (List.mem_append_right _ h)
def p_X2_pooledClasses_4 (σ : SS) : Nat → Int64 → Int32 → Option (Int64)
  | 0, _, _ => none
  | n + 1, v1, v3 => let k4 := p_X2_pooledClasses_4 σ n; if (σ.1 6 11) ≤ v3 then some v1 else oi v3 20 (oc (p_X0_with_0 v1 (σ.1 29 v3.toNatClampNeg)) (fun r_19 => k4 r_19 (v3 + 1)))
set_option maxHeartbeats 4000000 in
set_option maxRecDepth 100000 in
theorem w_X2_pooledClasses_4 {p : Program} {l : Launch} {e : Env} {R : Room} {s : State} {m : MethodId} {args : Array Value} {below : List Frame} {meth : Method} {c : Code} {D : va_G} {ad : Nat → Nat} {cI cJ cZ : ClassId} {res : Int64} (hm : mx p s m args meth c cX2_pooledClasses 4 (some .long) wsX2_pooledClasses RX2) (hR : 1 ≤ R.frames ∧ 22 ≤ R.locals) (hK : va_K D vwCl (tyw cI cJ cZ) s) (hD : ∀ σ, va_D (aC ad) (wC ad cI cJ cZ σ)) (σ : SS) : ∀ (n : Nat) (v1 : Int64) (v3 : Int32), p_X2_pooledClasses_4 σ n v1 v3 = some res → ∀ (H : Heap) (locs : List Loc) (ls : Array Slot), va_P D vwCl (wC ad cI cJ cZ σ) H → va_S (aC ad) s.heap H locs → lv_has ls 4 [(0, .ref (ad 6)), (1, .long v1), (3, .int v3)] → W p l e R s m args below meth c H locs 0 0 (MQ below (va_Ql (fun (r : Int64) (u : SS) => r = res ∧ u = σ) (fun u t => va_P D vwCl (wC ad cI cJ cZ u) t.heap) (aC ad)) args s 0 0 (aC ad)) (F0 m 4 ls []) := by
  obtain ⟨hx, hb, hr, hml, hown, hts, hlk⟩ := id hm
  intro n
  induction n with
  | zero =>
    intro _ _ hf
    cases hf
  | succ n hk4 =>
    intro v1 v3 hf H locs ls hP hS hl
    rw [p_X2_pooledClasses_4] at hf
    try dsimp only at hf
    refine lv_iload_n hx hb dX2_pooledClasses_4 rfl (lv_at hl 2 rfl) ?_
    refine lv_aload_n hx hb dX2_pooledClasses_5 rfl (lv_at hl 0 rfl) ?_
    refine va_get (D := D) (ci := 1) (v := .int (σ.1 6 11)) (C := RX2) (T := TX2) (N := 15) hx hb hts in_X2_pooledClasses_X2 hown hK hP 6 (wC_6 _ _ _ _ _) rfl 11 (by decide) (hts (.fieldLink RX2 49 "CallGraphs$DrawnRun" "poolCount" "I") (List.mem_of_getElem? (i := 1) rfl)) (fun _ h9 => h9) (fC_6_11 _ _) dX2_pooledClasses_6 ?_
    refine lv_icmp_ge (tgt := 29) hx hb dX2_pooledClasses_9 (by decide) (fun c_9 => ?_) (fun c_9 => ?_)
    · rw [if_pos c_9] at hf
      refine lv_lload_n hx hb dX2_pooledClasses_29 rfl (lv_at hl 1 rfl) ?_
      exact rt_l (wd := wC ad cI cJ cZ) hx hb hr hlk ⟨Option.some.inj hf, rfl⟩ hP hS dX2_pooledClasses_30
    · rw [if_neg c_9] at hf
      refine lv_lload_n hx hb dX2_pooledClasses_12 rfl (lv_at hl 1 rfl) ?_
      refine lv_aload_n hx hb dX2_pooledClasses_13 rfl (lv_at hl 0 rfl) ?_
      refine va_get (D := D) (ci := 1) (v := .ref (ad 29)) (C := RX2) (T := TX2) (N := 15) hx hb hts in_X2_pooledClasses_X2 hown hK hP 6 (wC_6 _ _ _ _ _) rfl 4 (by decide) (hts (.fieldLink RX2 9 "CallGraphs$DrawnRun" "pool" "[I") (List.mem_of_getElem? (i := 2) rfl)) (fun _ h9 => h9) (fC_6_4 _ _) dX2_pooledClasses_14 ?_
      refine lv_iload_n hx hb dX2_pooledClasses_17 rfl (lv_at hl 2 rfl) ?_
      obtain ⟨h_18, hf⟩ := oi_e hf
      refine va_iald hx hb hK hP 29 0 (wC_29 _ _ _ _ _) rfl h_18 dX2_pooledClasses_18 ?_
      obtain ⟨r_19, hg_19, hf⟩ := oc_e hf
      refine mS_l (D := D) (As := [.long v1, .int (σ.1 29 v3.toNatClampNeg)]) (rest := []) ⟨hx, hb, hml, hown, hts⟩ hP hS (c_X0_with l v1 (σ.1 29 v3.toNatClampNeg) hg_19) (va_cwS 2 hts gX2_pooledClasses_X0_with rfl rfl rfl hd_X0_with ⟨Nat.le_trans (Nat.le_of_ble_eq_true rfl) hR.1, Nat.le_trans (Nat.le_of_ble_eq_true rfl) hR.2⟩) rfl hl.1 rfl (Nat.le_of_ble_eq_true rfl) dX2_pooledClasses_19 (fun H locs hP hS => ?_)
      refine lv_lstore_n (lv' := [(1, .long r_19), (0, .ref (ad 6)), (3, .int v3)]) hx hb dX2_pooledClasses_22 rfl hl (by decide) rfl (fun ls hl => ?_)
      refine lv_iinc (v := (v3 + 1)) (lv' := [(3, .int (v3 + 1)), (1, .long r_19), (0, .ref (ad 6))]) hx hb dX2_pooledClasses_23 hl (k := 2) rfl rfl (by decide) rfl (fun ls hl => ?_)
      refine lv_goto (tgt := 4) hx hb dX2_pooledClasses_26 (by decide) ?_
      exact hk4 r_19 (v3 + 1) hf _ _ _ hP hS (lv_sub hl [2, 1, 0] rfl)
def p_X2_pooledClasses_0 (σ : SS) : Option (Int64) := p_X2_pooledClasses_4 σ 100000 0 0
set_option maxHeartbeats 4000000 in
set_option maxRecDepth 100000 in
theorem w_X2_pooledClasses_0 {p : Program} {l : Launch} {e : Env} {R : Room} {s : State} {m : MethodId} {args : Array Value} {below : List Frame} {meth : Method} {c : Code} {D : va_G} {ad : Nat → Nat} {cI cJ cZ : ClassId} {res : Int64} (hm : mx p s m args meth c cX2_pooledClasses 4 (some .long) wsX2_pooledClasses RX2) (hR : 1 ≤ R.frames ∧ 22 ≤ R.locals) (hK : va_K D vwCl (tyw cI cJ cZ) s) (hD : ∀ σ, va_D (aC ad) (wC ad cI cJ cZ σ)) (σ : SS) (hf : p_X2_pooledClasses_0 σ = some res) (H : Heap) (locs : List Loc) (ls : Array Slot) (hP : va_P D vwCl (wC ad cI cJ cZ σ) H) (hS : va_S (aC ad) s.heap H locs) (hl : lv_has ls 4 [(0, .ref (ad 6))]) : W p l e R s m args below meth c H locs 0 0 (MQ below (va_Ql (fun (r : Int64) (u : SS) => r = res ∧ u = σ) (fun u t => va_P D vwCl (wC ad cI cJ cZ u) t.heap) (aC ad)) args s 0 0 (aC ad)) (F0 m 0 ls []) := by
  obtain ⟨hx, hb, hr, hml, hown, hts, hlk⟩ := id hm
  unfold p_X2_pooledClasses_0 at hf
  refine lv_lconst (v := 0) hx hb dX2_pooledClasses_0 (by decide) ?_
  refine lv_lstore_n (lv' := [(1, .long 0), (0, .ref (ad 6))]) hx hb dX2_pooledClasses_1 rfl hl (by decide) rfl (fun ls hl => ?_)
  refine lv_iconst (v := 0) hx hb dX2_pooledClasses_2 (by decide) ?_
  refine lv_istore_n (lv' := [(3, .int 0), (1, .long 0), (0, .ref (ad 6))]) hx hb dX2_pooledClasses_3 rfl hl (by decide) rfl (fun ls hl => ?_)
  exact w_X2_pooledClasses_4 hm hR hK hD σ 100000 0 0 hf _ _ _ hP hS (lv_sub hl [2, 1, 0] rfl)
theorem hd_X2_pooledClasses : yX2_pooledClasses.cls = RX2 ∧ yX2_pooledClasses.cls ≠ "java/lang/invoke/MethodHandle" ∧ yX2_pooledClasses.cls ≠ "java/lang/invoke/VarHandle" ∧ (parseMethodDescriptor yX2_pooledClasses.desc).map (fun d => d.parameters.length) = some 0 := by decide +kernel
set_option maxHeartbeats 4000000 in
set_option maxRecDepth 100000 in
theorem c_X2_pooledClasses (l : Launch) (D : va_G) (ad : Nat → Nat) (cI cJ cZ : ClassId) (σ : SS) {res : Int64} (hf : p_X2_pooledClasses_0 σ = some res) : Met l yX2_pooledClasses wsX2_pooledClasses ({ frames := 1, cells := 0, slots := 0, locals := 22 } : Room) (PW D (tyw cI cJ cZ) (wC ad cI cJ cZ σ) [.ref (ad 6)]) (va_Ql (fun (r : Int64) (u : SS) => r = res ∧ u = σ) (fun u t => va_P D vwCl (wC ad cI cJ cZ u) t.heap) (aC ad)) 0 0 (aC ad) := by
  refine Met.ofW (cc := cX2_pooledClasses) (maxL := 4) (ret := (some .long)) (by decide) rfl ?_
  intro p e s m args below meth c s₁ B hml hv
  obtain ⟨rfl, hP, hK, hD0⟩ := hv
  have hD : ∀ σ, va_D (aC ad) (wC ad cI cJ cZ σ) := fun σ => wd_D hD0 (wC_map _ _ _ _ _) (wC_map _ _ _ _ _)
  have hm : mx p s m _ meth c cX2_pooledClasses 4 (some .long) wsX2_pooledClasses RX2 := ⟨B.exec, B.bytes, B.returns, hml, findClass_of_methodNamed B.named, atoms_spec (ws := wsX2_pooledClasses) B.pre, B.notSynchronized⟩
  have hl := lv_entry ([.ref (ad 6)]) (n := 4) (Nat.le_of_ble_eq_true rfl)
  rw [lg_entry_eq]
  generalize (lg_sl ([.ref (ad 6)]) ++ List.replicate (4 - (lg_sl ([.ref (ad 6)])).length) Slot.unset).toArray = ls at hl ⊢
  exact w_X2_pooledClasses_0 hm ⟨Nat.le_refl _, Nat.le_refl _⟩ hK hD σ hf _ _ _ hP va_S.rf hl
/-! CallGraphs$DrawnRun.clear()V -/
theorem in_X2_clear_X2 : ∀ w ∈ u_ws RX2 TX2 15, w ∈ wsX2_clear := fun w h => List.mem_cons_of_mem _ (List.mem_append_right _ h)
def p_X2_clear_0 (σ : SS) : Option (SS) := os (fI σ 31 4 0) (fun s_5 => os (fL s_5 32 160 0) (fun s_13 => os (sL s_13 6 9 0) (fun s_18 => os (sL s_18 6 10 0) (fun s_23 => os (sI s_23 6 11 0) (fun s_28 => os (sI s_28 6 12 0) (fun s_33 => os (sI s_33 6 13 0) (fun s_38 => os (sI s_38 6 14 (-1)) (fun s_43 => some s_43))))))))
set_option maxHeartbeats 4000000 in
set_option maxRecDepth 100000 in
theorem w_X2_clear_0 {p : Program} {l : Launch} {e : Env} {R : Room} {s : State} {m : MethodId} {args : Array Value} {below : List Frame} {meth : Method} {c : Code} {D : va_G} {ad : Nat → Nat} {cI cJ cZ : ClassId} {res : SS} (hm : mx p s m args meth c cX2_clear 1 none wsX2_clear RX2) (hR : 1 ≤ R.frames ∧ 24 ≤ R.locals) (hK : va_K D vwCl (tyw cI cJ cZ) s) (hD : ∀ σ, va_D (aC ad) (wC ad cI cJ cZ σ)) (σ : SS) (hf : p_X2_clear_0 σ = some res) (H : Heap) (locs : List Loc) (ls : Array Slot) (hP : va_P D vwCl (wC ad cI cJ cZ σ) H) (hS : va_S (aC ad) s.heap H locs) (hl : lv_has ls 1 [(0, .ref (ad 6))]) : W p l e R s m args below meth c H locs 0 0 (MQ below (va_Qv (fun (u : SS) => u = res) (fun u t => va_P D vwCl (wC ad cI cJ cZ u) t.heap) (aC ad)) args s 0 0 (aC ad)) (F0 m 0 ls []) := by
  obtain ⟨hx, hb, hr, hml, hown, hts, hlk⟩ := id hm
  unfold p_X2_clear_0 at hf
  refine lv_aload_n hx hb dX2_clear_0 rfl (lv_at hl 0 rfl) ?_
  refine va_get (D := D) (ci := 1) (v := .ref (ad 31)) (C := RX2) (T := TX2) (N := 15) hx hb hts in_X2_clear_X2 hown hK hP 6 (wC_6 _ _ _ _ _) rfl 6 (by decide) (hts (.fieldLink RX2 18 "CallGraphs$DrawnRun" "bagCounts" "[I") (List.mem_of_getElem? (i := 1) rfl)) (fun _ h9 => h9) (fC_6_6 _ _) dX2_clear_1 ?_
  refine lv_iconst (v := 0) hx hb dX2_clear_4 (by decide) ?_
  refine mF (ws := wC ad cI cJ cZ σ) (ws' := wC ad cI cJ cZ (fI σ 31 4 0)) (As := [.ref (ad 31), .int 0]) (rest := []) ⟨hx, hb, hml, hown, hts⟩ hK hP (hD _) hS (wC_31 _ _ _ _ _) rfl (c_fillI l D (ad 31) cI (Nat.le_of_ble_eq_true rfl) _ 0) 0 rfl (va_cwS 2 hts gX2_clear_J7_fill_53178 rfl rfl rfl hd_J7_fill_53178 ⟨Nat.le_trans (Nat.le_of_ble_eq_true rfl) hR.1, Nat.le_trans (Nat.le_of_ble_eq_true rfl) hR.2⟩) rfl hl.1 rfl (Nat.le_of_ble_eq_true rfl) dX2_clear_5 ⟨Nat.zero_le _, Nat.zero_le _⟩ (fun H locs hP hS => ?_)
  obtain ⟨s_5, es_5, hf⟩ := os_e hf
  rw [← es_5] at hP
  refine lv_aload_n hx hb dX2_clear_8 rfl (lv_at hl 0 rfl) ?_
  refine va_get (D := D) (ci := 1) (v := .ref (ad 32)) (C := RX2) (T := TX2) (N := 15) hx hb hts in_X2_clear_X2 hown hK hP 6 (wC_6 _ _ _ _ _) rfl 7 (by decide) (hts (.fieldLink RX2 21 "CallGraphs$DrawnRun" "tried" "[J") (List.mem_of_getElem? (i := 2) rfl)) (fun _ h9 => h9) (fC_6_7 _ _) dX2_clear_9 ?_
  refine lv_lconst (v := 0) hx hb dX2_clear_12 (by decide) ?_
  refine mF (ws := wC ad cI cJ cZ s_5) (ws' := wC ad cI cJ cZ (fL s_5 32 160 0)) (As := [.ref (ad 32), .long 0]) (rest := []) ⟨hx, hb, hml, hown, hts⟩ hK hP (hD _) hS (wC_32 _ _ _ _ _) rfl (c_fillL l D (ad 32) cJ (Nat.le_of_ble_eq_true rfl) _ 0) 1 rfl (va_cwS 2 hts gX2_clear_J7_fill_d0a16 rfl rfl rfl hd_J7_fill_d0a16 ⟨Nat.le_trans (Nat.le_of_ble_eq_true rfl) hR.1, Nat.le_trans (Nat.le_of_ble_eq_true rfl) hR.2⟩) rfl hl.1 rfl (Nat.le_of_ble_eq_true rfl) dX2_clear_13 ⟨Nat.zero_le _, Nat.zero_le _⟩ (fun H locs hP hS => ?_)
  obtain ⟨s_13, es_13, hf⟩ := os_e hf
  rw [← es_13] at hP
  refine lv_aload_n hx hb dX2_clear_16 rfl (lv_at hl 0 rfl) ?_
  refine lv_lconst (v := 0) hx hb dX2_clear_17 (by decide) ?_
  refine va_put (D := D) (ci := 1) (v := .long 0) (ty := .long) (C := RX2) (T := TX2) (N := 15) hx hb hts in_X2_clear_X2 tyX2 tyX2_ok nmX2 hown hK hP (hD _) hS 6 (wC_6 _ _ _ _ _) rfl 9 (by decide) (hts (.fieldLink RX2 45 "CallGraphs$DrawnRun" "ran" "J") (List.mem_of_getElem? (i := 3) rfl)) (fun _ h9 => h9) rfl (tyX2_ok 9 (by decide)) rfl rfl (Nat.le_of_ble_eq_true rfl) dX2_clear_18 (fun H locs hP _ hS => ?_)
  have hP := wC_p6_9 hP
  obtain ⟨s_18, es_18, hf⟩ := os_e hf
  rw [← es_18] at hP
  refine lv_aload_n hx hb dX2_clear_21 rfl (lv_at hl 0 rfl) ?_
  refine lv_lconst (v := 0) hx hb dX2_clear_22 (by decide) ?_
  refine va_put (D := D) (ci := 1) (v := .long 0) (ty := .long) (C := RX2) (T := TX2) (N := 15) hx hb hts in_X2_clear_X2 tyX2 tyX2_ok nmX2 hown hK hP (hD _) hS 6 (wC_6 _ _ _ _ _) rfl 10 (by decide) (hts (.fieldLink RX2 52 "CallGraphs$DrawnRun" "begun" "J") (List.mem_of_getElem? (i := 4) rfl)) (fun _ h9 => h9) rfl (tyX2_ok 10 (by decide)) rfl rfl (Nat.le_of_ble_eq_true rfl) dX2_clear_23 (fun H locs hP _ hS => ?_)
  have hP := wC_p6_10 hP
  obtain ⟨s_23, es_23, hf⟩ := os_e hf
  rw [← es_23] at hP
  refine lv_aload_n hx hb dX2_clear_26 rfl (lv_at hl 0 rfl) ?_
  refine lv_iconst (v := 0) hx hb dX2_clear_27 (by decide) ?_
  refine va_put (D := D) (ci := 1) (v := .int 0) (ty := .int) (C := RX2) (T := TX2) (N := 15) hx hb hts in_X2_clear_X2 tyX2 tyX2_ok nmX2 hown hK hP (hD _) hS 6 (wC_6 _ _ _ _ _) rfl 11 (by decide) (hts (.fieldLink RX2 49 "CallGraphs$DrawnRun" "poolCount" "I") (List.mem_of_getElem? (i := 5) rfl)) (fun _ h9 => h9) rfl (tyX2_ok 11 (by decide)) rfl rfl (Nat.le_of_ble_eq_true rfl) dX2_clear_28 (fun H locs hP _ hS => ?_)
  have hP := wC_p6_11 hP
  obtain ⟨s_28, es_28, hf⟩ := os_e hf
  rw [← es_28] at hP
  refine lv_aload_n hx hb dX2_clear_31 rfl (lv_at hl 0 rfl) ?_
  refine lv_iconst (v := 0) hx hb dX2_clear_32 (by decide) ?_
  refine va_put (D := D) (ci := 1) (v := .int 0) (ty := .int) (C := RX2) (T := TX2) (N := 15) hx hb hts in_X2_clear_X2 tyX2 tyX2_ok nmX2 hown hK hP (hD _) hS 6 (wC_6 _ _ _ _ _) rfl 12 (by decide) (hts (.fieldLink RX2 41 "CallGraphs$DrawnRun" "steps" "I") (List.mem_of_getElem? (i := 6) rfl)) (fun _ h9 => h9) rfl (tyX2_ok 12 (by decide)) rfl rfl (Nat.le_of_ble_eq_true rfl) dX2_clear_33 (fun H locs hP _ hS => ?_)
  have hP := wC_p6_12 hP
  obtain ⟨s_33, es_33, hf⟩ := os_e hf
  rw [← es_33] at hP
  refine lv_aload_n hx hb dX2_clear_36 rfl (lv_at hl 0 rfl) ?_
  refine lv_iconst (v := 0) hx hb dX2_clear_37 (by decide) ?_
  refine va_put (D := D) (ci := 1) (v := .int 0) (ty := .int) (C := RX2) (T := TX2) (N := 15) hx hb hts in_X2_clear_X2 tyX2 tyX2_ok nmX2 hown hK hP (hD _) hS 6 (wC_6 _ _ _ _ _) rfl 13 (by decide) (hts (.fieldLink RX2 55 "CallGraphs$DrawnRun" "left" "I") (List.mem_of_getElem? (i := 7) rfl)) (fun _ h9 => h9) rfl (tyX2_ok 13 (by decide)) rfl rfl (Nat.le_of_ble_eq_true rfl) dX2_clear_38 (fun H locs hP _ hS => ?_)
  have hP := wC_p6_13 hP
  obtain ⟨s_38, es_38, hf⟩ := os_e hf
  rw [← es_38] at hP
  refine lv_aload_n hx hb dX2_clear_41 rfl (lv_at hl 0 rfl) ?_
  refine lv_iconst (v := (-1)) hx hb dX2_clear_42 (by decide) ?_
  refine va_put (D := D) (ci := 1) (v := .int (-1)) (ty := .int) (C := RX2) (T := TX2) (N := 15) hx hb hts in_X2_clear_X2 tyX2 tyX2_ok nmX2 hown hK hP (hD _) hS 6 (wC_6 _ _ _ _ _) rfl 14 (by decide) (hts (.fieldLink RX2 58 "CallGraphs$DrawnRun" "latest" "I") (List.mem_of_getElem? (i := 8) rfl)) (fun _ h9 => h9) rfl (tyX2_ok 14 (by decide)) rfl rfl (Nat.le_of_ble_eq_true rfl) dX2_clear_43 (fun H locs hP _ hS => ?_)
  have hP := wC_p6_14 hP
  obtain ⟨s_43, es_43, hf⟩ := os_e hf
  rw [← es_43] at hP
  exact rt_v (wd := wC ad cI cJ cZ) hx hb hr hlk (Option.some.inj hf) hP hS dX2_clear_46
theorem hd_X2_clear : yX2_clear.cls = RX2 ∧ yX2_clear.cls ≠ "java/lang/invoke/MethodHandle" ∧ yX2_clear.cls ≠ "java/lang/invoke/VarHandle" ∧ (parseMethodDescriptor yX2_clear.desc).map (fun d => d.parameters.length) = some 0 := by decide +kernel
set_option maxHeartbeats 4000000 in
set_option maxRecDepth 100000 in
theorem c_X2_clear (l : Launch) (D : va_G) (ad : Nat → Nat) (cI cJ cZ : ClassId) (σ : SS) {res : SS} (hf : p_X2_clear_0 σ = some res) : Met l yX2_clear wsX2_clear ({ frames := 1, cells := 0, slots := 0, locals := 24 } : Room) (PW D (tyw cI cJ cZ) (wC ad cI cJ cZ σ) [.ref (ad 6)]) (va_Qv (fun (u : SS) => u = res) (fun u t => va_P D vwCl (wC ad cI cJ cZ u) t.heap) (aC ad)) 0 0 (aC ad) := by
  refine Met.ofW (cc := cX2_clear) (maxL := 1) (ret := none) (by decide) rfl ?_
  intro p e s m args below meth c s₁ B hml hv
  obtain ⟨rfl, hP, hK, hD0⟩ := hv
  have hD : ∀ σ, va_D (aC ad) (wC ad cI cJ cZ σ) := fun σ => wd_D hD0 (wC_map _ _ _ _ _) (wC_map _ _ _ _ _)
  have hm : mx p s m _ meth c cX2_clear 1 none wsX2_clear RX2 := ⟨B.exec, B.bytes, B.returns, hml, findClass_of_methodNamed B.named, atoms_spec (ws := wsX2_clear) B.pre, B.notSynchronized⟩
  have hl := lv_entry ([.ref (ad 6)]) (n := 1) (Nat.le_of_ble_eq_true rfl)
  rw [lg_entry_eq]
  generalize (lg_sl ([.ref (ad 6)]) ++ List.replicate (1 - (lg_sl ([.ref (ad 6)])).length) Slot.unset).toArray = ls at hl ⊢
  exact w_X2_clear_0 hm ⟨Nat.le_refl _, Nat.le_refl _⟩ hK hD σ hf _ _ _ hP va_S.rf hl
/-! CallGraphs$DrawnRun.draw(I)I -/
theorem in_X2_draw_X2 : ∀ w ∈ u_ws RX2 TX2 15, w ∈ wsX2_draw := fun w h => List.mem_cons_of_mem _ (List.mem_append_right _ h)
def p_X2_draw_35 (t0 : Int32) (σ : SS) : Option (Int32 × SS) := some (t0, σ)
set_option maxHeartbeats 4000000 in
set_option maxRecDepth 100000 in
theorem w_X2_draw_35 {p : Program} {l : Launch} {e : Env} {R : Room} {s : State} {m : MethodId} {args : Array Value} {below : List Frame} {meth : Method} {c : Code} {D : va_G} {ad : Nat → Nat} {cI cJ cZ : ClassId} {res : Int32 × SS} (hm : mx p s m args meth c cX2_draw 2 (some .int) wsX2_draw RX2) (hR : 0 ≤ R.frames ∧ 0 ≤ R.locals) (hK : va_K D vwCl (tyw cI cJ cZ) s) (hD : ∀ σ, va_D (aC ad) (wC ad cI cJ cZ σ)) (t0 : Int32) (σ : SS) (hf : p_X2_draw_35 t0 σ = some res) (H : Heap) (locs : List Loc) (ls : Array Slot) (hP : va_P D vwCl (wC ad cI cJ cZ σ) H) (hS : va_S (aC ad) s.heap H locs) (hl : lv_has ls 2 []) : W p l e R s m args below meth c H locs 0 0 (MQ below (va_Qi (fun (r : Int32) (u : SS) => (r, u) = res) (fun u t => va_P D vwCl (wC ad cI cJ cZ u) t.heap) (aC ad)) args s 0 0 (aC ad)) (F0 m 35 ls [.int t0]) := by
  obtain ⟨hx, hb, hr, hml, hown, hts, hlk⟩ := id hm
  unfold p_X2_draw_35 at hf
  exact rt_i (wd := wC ad cI cJ cZ) hx hb hr hlk (Option.some.inj hf) hP hS dX2_draw_35
def p_X2_draw_0 (v1 : Int32) (σ : SS) : Option (Int32 × SS) := os (sL σ 6 8 (((σ.2 6 8) * (6364136223846793005)) + (1442695040888963407))) (fun s_13 => if 0 < v1 then oz (v1.toInt64) (p_X2_draw_35 (((jush (s_13.2 6 8) 33) - (jush (s_13.2 6 8) 33) / (v1.toInt64) * (v1.toInt64)).toInt32) s_13) else p_X2_draw_35 0 s_13)
set_option maxHeartbeats 4000000 in
set_option maxRecDepth 100000 in
theorem w_X2_draw_0 {p : Program} {l : Launch} {e : Env} {R : Room} {s : State} {m : MethodId} {args : Array Value} {below : List Frame} {meth : Method} {c : Code} {D : va_G} {ad : Nat → Nat} {cI cJ cZ : ClassId} {res : Int32 × SS} (hm : mx p s m args meth c cX2_draw 2 (some .int) wsX2_draw RX2) (hR : 0 ≤ R.frames ∧ 0 ≤ R.locals) (hK : va_K D vwCl (tyw cI cJ cZ) s) (hD : ∀ σ, va_D (aC ad) (wC ad cI cJ cZ σ)) (v1 : Int32) (σ : SS) (hf : p_X2_draw_0 v1 σ = some res) (H : Heap) (locs : List Loc) (ls : Array Slot) (hP : va_P D vwCl (wC ad cI cJ cZ σ) H) (hS : va_S (aC ad) s.heap H locs) (hl : lv_has ls 2 [(0, .ref (ad 6)), (1, .int v1)]) : W p l e R s m args below meth c H locs 0 0 (MQ below (va_Qi (fun (r : Int32) (u : SS) => (r, u) = res) (fun u t => va_P D vwCl (wC ad cI cJ cZ u) t.heap) (aC ad)) args s 0 0 (aC ad)) (F0 m 0 ls []) := by
  obtain ⟨hx, hb, hr, hml, hown, hts, hlk⟩ := id hm
  unfold p_X2_draw_0 at hf
  refine lv_aload_n hx hb dX2_draw_0 rfl (lv_at hl 0 rfl) ?_
  refine lv_aload_n hx hb dX2_draw_1 rfl (lv_at hl 0 rfl) ?_
  refine va_get (D := D) (ci := 1) (v := .long (σ.2 6 8)) (C := RX2) (T := TX2) (N := 15) hx hb hts in_X2_draw_X2 hown hK hP 6 (wC_6 _ _ _ _ _) rfl 8 (by decide) (hts (.fieldLink RX2 70 "CallGraphs$DrawnRun" "x" "J") (List.mem_of_getElem? (i := 1) rfl)) (fun _ h9 => h9) (fC_6_8 _ _) dX2_draw_2 ?_
  refine lv_ldc2 hx hb hown (hts (.constantLong RX2 96 (6364136223846793005)) (List.mem_of_getElem? (i := 2) rfl)) dX2_draw_5 ?_
  refine lv_lmul hx hb dX2_draw_8 ?_
  refine lv_ldc2 hx hb hown (hts (.constantLong RX2 98 (1442695040888963407)) (List.mem_of_getElem? (i := 3) rfl)) dX2_draw_9 ?_
  refine lv_ladd hx hb dX2_draw_12 ?_
  refine va_put (D := D) (ci := 1) (v := .long (((σ.2 6 8) * (6364136223846793005)) + (1442695040888963407))) (ty := .long) (C := RX2) (T := TX2) (N := 15) hx hb hts in_X2_draw_X2 tyX2 tyX2_ok nmX2 hown hK hP (hD _) hS 6 (wC_6 _ _ _ _ _) rfl 8 (by decide) (hts (.fieldLink RX2 70 "CallGraphs$DrawnRun" "x" "J") (List.mem_of_getElem? (i := 1) rfl)) (fun _ h9 => h9) rfl (tyX2_ok 8 (by decide)) rfl rfl (Nat.le_of_ble_eq_true rfl) dX2_draw_13 (fun H locs hP _ hS => ?_)
  have hP := wC_p6_8 hP
  obtain ⟨s_13, es_13, hf⟩ := os_e hf
  rw [← es_13] at hP
  refine lv_iload_n hx hb dX2_draw_16 rfl (lv_at hl 1 rfl) ?_
  refine lv_if_gt (tgt := 24) hx hb dX2_draw_17 (by decide) (fun c_17 => ?_) (fun c_17 => ?_)
  · rw [if_pos c_17] at hf
    refine lv_aload_n hx hb dX2_draw_24 rfl (lv_at hl 0 rfl) ?_
    refine va_get (D := D) (ci := 1) (v := .long (s_13.2 6 8)) (C := RX2) (T := TX2) (N := 15) hx hb hts in_X2_draw_X2 hown hK hP 6 (wC_6 _ _ _ _ _) rfl 8 (by decide) (hts (.fieldLink RX2 70 "CallGraphs$DrawnRun" "x" "J") (List.mem_of_getElem? (i := 1) rfl)) (fun _ h9 => h9) (fC_6_8 _ _) dX2_draw_25 ?_
    refine lv_bipush (v := 33) hx hb dX2_draw_28 (by decide) ?_
    refine lv_lushr (v := (jush (s_13.2 6 8) 33)) hx hb dX2_draw_30 rfl ?_
    refine lv_iload_n hx hb dX2_draw_31 rfl (lv_at hl 1 rfl) ?_
    refine lv_i2l (v := (v1.toInt64)) hx hb dX2_draw_32 rfl ?_
    obtain ⟨h_33, hf⟩ := oz_e hf
    refine lv_lrem hx hb dX2_draw_33 h_33 ?_
    refine lv_l2i (v := (((jush (s_13.2 6 8) 33) - (jush (s_13.2 6 8) 33) / (v1.toInt64) * (v1.toInt64)).toInt32)) hx hb dX2_draw_34 rfl ?_
    exact w_X2_draw_35 hm hR hK hD (((jush (s_13.2 6 8) 33) - (jush (s_13.2 6 8) 33) / (v1.toInt64) * (v1.toInt64)).toInt32) s_13 hf _ _ _ hP hS (lv_sub hl [] rfl)
  · rw [if_neg c_17] at hf
    refine lv_iconst (v := 0) hx hb dX2_draw_20 (by decide) ?_
    refine lv_goto (tgt := 35) hx hb dX2_draw_21 (by decide) ?_
    exact w_X2_draw_35 hm hR hK hD 0 s_13 hf _ _ _ hP hS (lv_sub hl [] rfl)
theorem hd_X2_draw : yX2_draw.cls = RX2 ∧ yX2_draw.cls ≠ "java/lang/invoke/MethodHandle" ∧ yX2_draw.cls ≠ "java/lang/invoke/VarHandle" ∧ (parseMethodDescriptor yX2_draw.desc).map (fun d => d.parameters.length) = some 1 := by decide +kernel
set_option maxHeartbeats 4000000 in
set_option maxRecDepth 100000 in
theorem c_X2_draw (l : Launch) (D : va_G) (ad : Nat → Nat) (cI cJ cZ : ClassId) (σ : SS) (v1 : Int32) {res : Int32 × SS} (hf : p_X2_draw_0 v1 σ = some res) : Met l yX2_draw wsX2_draw ({ frames := 0, cells := 0, slots := 0, locals := 0 } : Room) (PW D (tyw cI cJ cZ) (wC ad cI cJ cZ σ) [.ref (ad 6), .int v1]) (va_Qi (fun (r : Int32) (u : SS) => (r, u) = res) (fun u t => va_P D vwCl (wC ad cI cJ cZ u) t.heap) (aC ad)) 0 0 (aC ad) := by
  refine Met.ofW (cc := cX2_draw) (maxL := 2) (ret := (some .int)) (by decide) rfl ?_
  intro p e s m args below meth c s₁ B hml hv
  obtain ⟨rfl, hP, hK, hD0⟩ := hv
  have hD : ∀ σ, va_D (aC ad) (wC ad cI cJ cZ σ) := fun σ => wd_D hD0 (wC_map _ _ _ _ _) (wC_map _ _ _ _ _)
  have hm : mx p s m _ meth c cX2_draw 2 (some .int) wsX2_draw RX2 := ⟨B.exec, B.bytes, B.returns, hml, findClass_of_methodNamed B.named, atoms_spec (ws := wsX2_draw) B.pre, B.notSynchronized⟩
  have hl := lv_entry ([.ref (ad 6), .int v1]) (n := 2) (Nat.le_of_ble_eq_true rfl)
  rw [lg_entry_eq]
  generalize (lg_sl ([.ref (ad 6), .int v1]) ++ List.replicate (2 - (lg_sl ([.ref (ad 6), .int v1])).length) Slot.unset).toArray = ls at hl ⊢
  exact w_X2_draw_0 hm ⟨Nat.le_refl _, Nat.le_refl _⟩ hK hD v1 σ hf _ _ _ hP va_S.rf hl
/-! CallGraphs$DrawnRun.pooledUnder(II)I -/
theorem in_X2_pooledUnder_X2 : ∀ w ∈ u_ws RX2 TX2 15, w ∈ wsX2_pooledUnder := fun w h => List.mem_cons_of_mem _ (List.mem_append_left _ (List.mem_append_right _ h))
def p_X2_pooledUnder_51 (σ : SS) (k5 : Int32 → Int32 → Int32 → Int32 → Option (Int32)) (v1 : Int32) (v2 : Int32) (v3 : Int32) (v4 : Int32) : Option (Int32) := k5 v1 v2 v3 (v4 + 1)
set_option maxHeartbeats 4000000 in
set_option maxRecDepth 100000 in
theorem w_X2_pooledUnder_51 {p : Program} {l : Launch} {e : Env} {R : Room} {s : State} {m : MethodId} {args : Array Value} {below : List Frame} {meth : Method} {c : Code} {D : va_G} {ad : Nat → Nat} {cI cJ cZ : ClassId} {res : Int32} (hm : mx p s m args meth c cX2_pooledUnder 5 (some .int) wsX2_pooledUnder RX2) (hR : 2 ≤ R.frames ∧ 44 ≤ R.locals) (hK : va_K D vwCl (tyw cI cJ cZ) s) (hD : ∀ σ, va_D (aC ad) (wC ad cI cJ cZ σ)) (σ : SS) (k5 : Int32 → Int32 → Int32 → Int32 → Option (Int32)) (hk5 : ∀ (v1 : Int32) (v2 : Int32) (v3 : Int32) (v4 : Int32), k5 v1 v2 v3 v4 = some res → ∀ (H : Heap) (locs : List Loc) (ls : Array Slot), va_P D vwCl (wC ad cI cJ cZ σ) H → va_S (aC ad) s.heap H locs → lv_has ls 5 [(0, .ref (ad 6)), (1, .int v1), (2, .int v2), (3, .int v3), (4, .int v4)] → W p l e R s m args below meth c H locs 0 0 (MQ below (va_Qi (fun (r : Int32) (u : SS) => r = res ∧ u = σ) (fun u t => va_P D vwCl (wC ad cI cJ cZ u) t.heap) (aC ad)) args s 0 0 (aC ad)) (F0 m 5 ls [])) (v1 : Int32) (v2 : Int32) (v3 : Int32) (v4 : Int32) (hf : p_X2_pooledUnder_51 σ k5 v1 v2 v3 v4 = some res) (H : Heap) (locs : List Loc) (ls : Array Slot) (hP : va_P D vwCl (wC ad cI cJ cZ σ) H) (hS : va_S (aC ad) s.heap H locs) (hl : lv_has ls 5 [(0, .ref (ad 6)), (1, .int v1), (2, .int v2), (3, .int v3), (4, .int v4)]) : W p l e R s m args below meth c H locs 0 0 (MQ below (va_Qi (fun (r : Int32) (u : SS) => r = res ∧ u = σ) (fun u t => va_P D vwCl (wC ad cI cJ cZ u) t.heap) (aC ad)) args s 0 0 (aC ad)) (F0 m 51 ls []) := by
  obtain ⟨hx, hb, hr, hml, hown, hts, hlk⟩ := id hm
  unfold p_X2_pooledUnder_51 at hf
  refine lv_iinc (v := (v4 + 1)) (lv' := [(4, .int (v4 + 1)), (0, .ref (ad 6)), (1, .int v1), (2, .int v2), (3, .int v3)]) hx hb dX2_pooledUnder_51 hl (k := 4) rfl rfl (by decide) rfl (fun ls hl => ?_)
  refine lv_goto (tgt := 5) hx hb dX2_pooledUnder_54 (by decide) ?_
  exact hk5 v1 v2 v3 (v4 + 1) hf _ _ _ hP hS (lv_sub hl [1, 2, 3, 4, 0] rfl)
def p_X2_pooledUnder_5 (σ : SS) : Nat → Int32 → Int32 → Int32 → Int32 → Option (Int32)
  | 0, _, _, _, _ => none
  | n + 1, v1, v2, v3, v4 => let k5 := p_X2_pooledUnder_5 σ n; if (σ.1 6 11) ≤ v4 then some (-1) else oi v4 20 (oc (p_X6_isUnder_0 σ (σ.1 29 v4.toNatClampNeg) v1) (fun r_26 => if r_26 = 0 then p_X2_pooledUnder_51 σ k5 v1 v2 v3 v4 else if v3 = v2 then oi v4 20 (some (σ.1 29 v4.toNatClampNeg)) else p_X2_pooledUnder_51 σ k5 v1 v2 (v3 + 1) v4))
set_option maxHeartbeats 4000000 in
set_option maxRecDepth 100000 in
theorem w_X2_pooledUnder_5 {p : Program} {l : Launch} {e : Env} {R : Room} {s : State} {m : MethodId} {args : Array Value} {below : List Frame} {meth : Method} {c : Code} {D : va_G} {ad : Nat → Nat} {cI cJ cZ : ClassId} {res : Int32} (hm : mx p s m args meth c cX2_pooledUnder 5 (some .int) wsX2_pooledUnder RX2) (hR : 2 ≤ R.frames ∧ 44 ≤ R.locals) (hK : va_K D vwCl (tyw cI cJ cZ) s) (hD : ∀ σ, va_D (aC ad) (wC ad cI cJ cZ σ)) (σ : SS) : ∀ (n : Nat) (v1 : Int32) (v2 : Int32) (v3 : Int32) (v4 : Int32), p_X2_pooledUnder_5 σ n v1 v2 v3 v4 = some res → ∀ (H : Heap) (locs : List Loc) (ls : Array Slot), va_P D vwCl (wC ad cI cJ cZ σ) H → va_S (aC ad) s.heap H locs → lv_has ls 5 [(0, .ref (ad 6)), (1, .int v1), (2, .int v2), (3, .int v3), (4, .int v4)] → W p l e R s m args below meth c H locs 0 0 (MQ below (va_Qi (fun (r : Int32) (u : SS) => r = res ∧ u = σ) (fun u t => va_P D vwCl (wC ad cI cJ cZ u) t.heap) (aC ad)) args s 0 0 (aC ad)) (F0 m 5 ls []) := by
  obtain ⟨hx, hb, hr, hml, hown, hts, hlk⟩ := id hm
  intro n
  induction n with
  | zero =>
    intro _ _ _ _ hf
    cases hf
  | succ n hk5 =>
    intro v1 v2 v3 v4 hf H locs ls hP hS hl
    rw [p_X2_pooledUnder_5] at hf
    try dsimp only at hf
    refine lv_iload hx hb dX2_pooledUnder_5 (lv_at hl 4 rfl) ?_
    refine lv_aload_n hx hb dX2_pooledUnder_7 rfl (lv_at hl 0 rfl) ?_
    refine va_get (D := D) (ci := 1) (v := .int (σ.1 6 11)) (C := RX2) (T := TX2) (N := 15) hx hb hts in_X2_pooledUnder_X2 hown hK hP 6 (wC_6 _ _ _ _ _) rfl 11 (by decide) (hts (.fieldLink RX2 49 "CallGraphs$DrawnRun" "poolCount" "I") (List.mem_of_getElem? (i := 1) rfl)) (fun _ h9 => h9) (fC_6_11 _ _) dX2_pooledUnder_8 ?_
    refine lv_icmp_ge (tgt := 57) hx hb dX2_pooledUnder_11 (by decide) (fun c_11 => ?_) (fun c_11 => ?_)
    · rw [if_pos c_11] at hf
      refine lv_iconst (v := (-1)) hx hb dX2_pooledUnder_57 (by decide) ?_
      exact rt_i (wd := wC ad cI cJ cZ) hx hb hr hlk ⟨Option.some.inj hf, rfl⟩ hP hS dX2_pooledUnder_58
    · rw [if_neg c_11] at hf
      refine lv_aload_n hx hb dX2_pooledUnder_14 rfl (lv_at hl 0 rfl) ?_
      refine va_get (D := D) (ci := 1) (v := .ref (ad 1)) (C := RX2) (T := TX2) (N := 15) hx hb hts in_X2_pooledUnder_X2 hown hK hP 6 (wC_6 _ _ _ _ _) rfl 0 (by decide) (hts (.fieldLink RX2 25 "CallGraphs$DrawnRun" "types" "LCallGraphs$Types;") (List.mem_of_getElem? (i := 2) rfl)) (fun _ h9 => h9) (fC_6_0 _ _) dX2_pooledUnder_15 ?_
      refine lv_aload_n hx hb dX2_pooledUnder_18 rfl (lv_at hl 0 rfl) ?_
      refine va_get (D := D) (ci := 1) (v := .ref (ad 29)) (C := RX2) (T := TX2) (N := 15) hx hb hts in_X2_pooledUnder_X2 hown hK hP 6 (wC_6 _ _ _ _ _) rfl 4 (by decide) (hts (.fieldLink RX2 9 "CallGraphs$DrawnRun" "pool" "[I") (List.mem_of_getElem? (i := 3) rfl)) (fun _ h9 => h9) (fC_6_4 _ _) dX2_pooledUnder_19 ?_
      refine lv_iload hx hb dX2_pooledUnder_22 (lv_at hl 4 rfl) ?_
      obtain ⟨h_24, hf⟩ := oi_e hf
      refine va_iald hx hb hK hP 29 0 (wC_29 _ _ _ _ _) rfl h_24 dX2_pooledUnder_24 ?_
      refine lv_iload_n hx hb dX2_pooledUnder_25 rfl (lv_at hl 1 rfl) ?_
      obtain ⟨r_26, hg_26, hf⟩ := oc_e hf
      refine mV_ri (wd := wC ad cI cJ cZ) (σ := σ) (As := [.int (σ.1 29 v4.toNatClampNeg), .int v1]) (rest := []) ⟨hx, hb, hml, hown, hts⟩ hK hP hD hS (c_X6_isUnder l D ad cI cJ cZ σ (σ.1 29 v4.toNatClampNeg) v1 hg_26) (cwV 2 hts gX2_pooledUnder_X6_isUnder rfl rfl rfl hd_X6_isUnder ⟨Nat.le_trans (Nat.le_of_ble_eq_true rfl) hR.1, Nat.le_trans (Nat.le_of_ble_eq_true rfl) hR.2⟩) rfl (wC_1 _ _ _ _ _) rfl hl.1 rfl (Nat.le_of_ble_eq_true rfl) dX2_pooledUnder_26 (fun H locs hP hS => ?_)
      refine lv_if_ne (tgt := 35) hx hb dX2_pooledUnder_29 (by decide) (fun c_29 => ?_) (fun c_29 => ?_)
      · rw [if_neg c_29] at hf
        refine lv_iload_n hx hb dX2_pooledUnder_35 rfl (lv_at hl 3 rfl) ?_
        refine lv_iload_n hx hb dX2_pooledUnder_36 rfl (lv_at hl 2 rfl) ?_
        refine lv_icmp_ne (tgt := 48) hx hb dX2_pooledUnder_37 (by decide) (fun c_37 => ?_) (fun c_37 => ?_)
        · rw [if_neg c_37] at hf
          refine lv_iinc (v := (v3 + 1)) (lv' := [(3, .int (v3 + 1)), (0, .ref (ad 6)), (1, .int v1), (2, .int v2), (4, .int v4)]) hx hb dX2_pooledUnder_48 hl (k := 3) rfl rfl (by decide) rfl (fun ls hl => ?_)
          exact w_X2_pooledUnder_51 hm hR hK hD σ (p_X2_pooledUnder_5 σ n) hk5 v1 v2 (v3 + 1) v4 hf _ _ _ hP hS (lv_sub hl [1, 2, 3, 0, 4] rfl)
        · rw [if_pos c_37] at hf
          refine lv_aload_n hx hb dX2_pooledUnder_40 rfl (lv_at hl 0 rfl) ?_
          refine va_get (D := D) (ci := 1) (v := .ref (ad 29)) (C := RX2) (T := TX2) (N := 15) hx hb hts in_X2_pooledUnder_X2 hown hK hP 6 (wC_6 _ _ _ _ _) rfl 4 (by decide) (hts (.fieldLink RX2 9 "CallGraphs$DrawnRun" "pool" "[I") (List.mem_of_getElem? (i := 3) rfl)) (fun _ h9 => h9) (fC_6_4 _ _) dX2_pooledUnder_41 ?_
          refine lv_iload hx hb dX2_pooledUnder_44 (lv_at hl 4 rfl) ?_
          obtain ⟨h_46, hf⟩ := oi_e hf
          refine va_iald hx hb hK hP 29 0 (wC_29 _ _ _ _ _) rfl h_46 dX2_pooledUnder_46 ?_
          exact rt_i (wd := wC ad cI cJ cZ) hx hb hr hlk ⟨Option.some.inj hf, rfl⟩ hP hS dX2_pooledUnder_47
      · rw [if_pos c_29] at hf
        refine lv_goto (tgt := 51) hx hb dX2_pooledUnder_32 (by decide) ?_
        exact w_X2_pooledUnder_51 hm hR hK hD σ (p_X2_pooledUnder_5 σ n) hk5 v1 v2 v3 v4 hf _ _ _ hP hS (lv_sub hl [0, 1, 2, 3, 4] rfl)
def p_X2_pooledUnder_0 (σ : SS) (v1 : Int32) (v2 : Int32) : Option (Int32) := p_X2_pooledUnder_5 σ 100000 v1 v2 0 0
set_option maxHeartbeats 4000000 in
set_option maxRecDepth 100000 in
theorem w_X2_pooledUnder_0 {p : Program} {l : Launch} {e : Env} {R : Room} {s : State} {m : MethodId} {args : Array Value} {below : List Frame} {meth : Method} {c : Code} {D : va_G} {ad : Nat → Nat} {cI cJ cZ : ClassId} {res : Int32} (hm : mx p s m args meth c cX2_pooledUnder 5 (some .int) wsX2_pooledUnder RX2) (hR : 2 ≤ R.frames ∧ 44 ≤ R.locals) (hK : va_K D vwCl (tyw cI cJ cZ) s) (hD : ∀ σ, va_D (aC ad) (wC ad cI cJ cZ σ)) (σ : SS) (v1 : Int32) (v2 : Int32) (hf : p_X2_pooledUnder_0 σ v1 v2 = some res) (H : Heap) (locs : List Loc) (ls : Array Slot) (hP : va_P D vwCl (wC ad cI cJ cZ σ) H) (hS : va_S (aC ad) s.heap H locs) (hl : lv_has ls 5 [(0, .ref (ad 6)), (1, .int v1), (2, .int v2)]) : W p l e R s m args below meth c H locs 0 0 (MQ below (va_Qi (fun (r : Int32) (u : SS) => r = res ∧ u = σ) (fun u t => va_P D vwCl (wC ad cI cJ cZ u) t.heap) (aC ad)) args s 0 0 (aC ad)) (F0 m 0 ls []) := by
  obtain ⟨hx, hb, hr, hml, hown, hts, hlk⟩ := id hm
  unfold p_X2_pooledUnder_0 at hf
  refine lv_iconst (v := 0) hx hb dX2_pooledUnder_0 (by decide) ?_
  refine lv_istore_n (lv' := [(3, .int 0), (0, .ref (ad 6)), (1, .int v1), (2, .int v2)]) hx hb dX2_pooledUnder_1 rfl hl (by decide) rfl (fun ls hl => ?_)
  refine lv_iconst (v := 0) hx hb dX2_pooledUnder_2 (by decide) ?_
  refine lv_istore (lv' := [(4, .int 0), (3, .int 0), (0, .ref (ad 6)), (1, .int v1), (2, .int v2)]) hx hb dX2_pooledUnder_3 hl (by decide) rfl (fun ls hl => ?_)
  exact w_X2_pooledUnder_5 hm hR hK hD σ 100000 v1 v2 0 0 hf _ _ _ hP hS (lv_sub hl [2, 3, 4, 1, 0] rfl)
theorem hd_X2_pooledUnder : yX2_pooledUnder.cls = RX2 ∧ yX2_pooledUnder.cls ≠ "java/lang/invoke/MethodHandle" ∧ yX2_pooledUnder.cls ≠ "java/lang/invoke/VarHandle" ∧ (parseMethodDescriptor yX2_pooledUnder.desc).map (fun d => d.parameters.length) = some 2 := by decide +kernel
set_option maxHeartbeats 4000000 in
set_option maxRecDepth 100000 in
theorem c_X2_pooledUnder (l : Launch) (D : va_G) (ad : Nat → Nat) (cI cJ cZ : ClassId) (σ : SS) (v1 : Int32) (v2 : Int32) {res : Int32} (hf : p_X2_pooledUnder_0 σ v1 v2 = some res) : Met l yX2_pooledUnder wsX2_pooledUnder ({ frames := 2, cells := 0, slots := 0, locals := 44 } : Room) (PW D (tyw cI cJ cZ) (wC ad cI cJ cZ σ) [.ref (ad 6), .int v1, .int v2]) (va_Qi (fun (r : Int32) (u : SS) => r = res ∧ u = σ) (fun u t => va_P D vwCl (wC ad cI cJ cZ u) t.heap) (aC ad)) 0 0 (aC ad) := by
  refine Met.ofW (cc := cX2_pooledUnder) (maxL := 5) (ret := (some .int)) (by decide) rfl ?_
  intro p e s m args below meth c s₁ B hml hv
  obtain ⟨rfl, hP, hK, hD0⟩ := hv
  have hD : ∀ σ, va_D (aC ad) (wC ad cI cJ cZ σ) := fun σ => wd_D hD0 (wC_map _ _ _ _ _) (wC_map _ _ _ _ _)
  have hm : mx p s m _ meth c cX2_pooledUnder 5 (some .int) wsX2_pooledUnder RX2 := ⟨B.exec, B.bytes, B.returns, hml, findClass_of_methodNamed B.named, atoms_spec (ws := wsX2_pooledUnder) B.pre, B.notSynchronized⟩
  have hl := lv_entry ([.ref (ad 6), .int v1, .int v2]) (n := 5) (Nat.le_of_ble_eq_true rfl)
  rw [lg_entry_eq]
  generalize (lg_sl ([.ref (ad 6), .int v1, .int v2]) ++ List.replicate (5 - (lg_sl ([.ref (ad 6), .int v1, .int v2])).length) Slot.unset).toArray = ls at hl ⊢
  exact w_X2_pooledUnder_0 hm ⟨Nat.le_refl _, Nat.le_refl _⟩ hK hD σ v1 v2 hf _ _ _ hP va_S.rf hl
/-! CallGraphs$DrawnRun.put(II)V -/
theorem in_X2_put_X2 : ∀ w ∈ u_ws RX2 TX2 15, w ∈ wsX2_put := fun w h => List.mem_cons_of_mem _ (List.mem_append_right _ h)
def p_X2_put_8 : Nat → Int32 → Int32 → Int32 → Int32 → SS → Option (SS)
  | 0, _, _, _, _, _ => none
  | n + 1, v1, v2, v3, v4, σ => let k8 := p_X2_put_8 n; oi v1 4 (if (σ.1 31 v1.toNatClampNeg) ≤ v4 then oi v1 4 (oi (v3 + (σ.1 31 v1.toNatClampNeg)) 192 (os (sI σ 30 ((v3 + (σ.1 31 v1.toNatClampNeg)).toNatClampNeg) v2) (fun s_52 => oi v1 4 (oi v1 4 (os (sI s_52 31 (v1.toNatClampNeg) ((s_52.1 31 v1.toNatClampNeg) + 1)) (fun s_62 => some s_62)))))) else oi (v3 + v4) 192 (if (σ.1 30 (v3 + v4).toNatClampNeg) = v2 then some σ else k8 v1 v2 v3 (v4 + 1) σ))
set_option maxHeartbeats 4000000 in
set_option maxRecDepth 100000 in
theorem w_X2_put_8 {p : Program} {l : Launch} {e : Env} {R : Room} {s : State} {m : MethodId} {args : Array Value} {below : List Frame} {meth : Method} {c : Code} {D : va_G} {ad : Nat → Nat} {cI cJ cZ : ClassId} {res : SS} (hm : mx p s m args meth c cX2_put 5 none wsX2_put RX2) (hR : 0 ≤ R.frames ∧ 0 ≤ R.locals) (hK : va_K D vwCl (tyw cI cJ cZ) s) (hD : ∀ σ, va_D (aC ad) (wC ad cI cJ cZ σ)) : ∀ (n : Nat) (v1 : Int32) (v2 : Int32) (v3 : Int32) (v4 : Int32) (σ : SS), p_X2_put_8 n v1 v2 v3 v4 σ = some res → ∀ (H : Heap) (locs : List Loc) (ls : Array Slot), va_P D vwCl (wC ad cI cJ cZ σ) H → va_S (aC ad) s.heap H locs → lv_has ls 5 [(0, .ref (ad 6)), (1, .int v1), (2, .int v2), (3, .int v3), (4, .int v4)] → W p l e R s m args below meth c H locs 0 0 (MQ below (va_Qv (fun (u : SS) => u = res) (fun u t => va_P D vwCl (wC ad cI cJ cZ u) t.heap) (aC ad)) args s 0 0 (aC ad)) (F0 m 8 ls []) := by
  obtain ⟨hx, hb, hr, hml, hown, hts, hlk⟩ := id hm
  intro n
  induction n with
  | zero =>
    intro _ _ _ _ _ hf
    cases hf
  | succ n hk8 =>
    intro v1 v2 v3 v4 σ hf H locs ls hP hS hl
    rw [p_X2_put_8] at hf
    try dsimp only at hf
    refine lv_iload hx hb dX2_put_8 (lv_at hl 4 rfl) ?_
    refine lv_aload_n hx hb dX2_put_10 rfl (lv_at hl 0 rfl) ?_
    refine va_get (D := D) (ci := 1) (v := .ref (ad 31)) (C := RX2) (T := TX2) (N := 15) hx hb hts in_X2_put_X2 hown hK hP 6 (wC_6 _ _ _ _ _) rfl 6 (by decide) (hts (.fieldLink RX2 18 "CallGraphs$DrawnRun" "bagCounts" "[I") (List.mem_of_getElem? (i := 1) rfl)) (fun _ h9 => h9) (fC_6_6 _ _) dX2_put_11 ?_
    refine lv_iload_n hx hb dX2_put_14 rfl (lv_at hl 1 rfl) ?_
    obtain ⟨h_15, hf⟩ := oi_e hf
    refine va_iald hx hb hK hP 31 0 (wC_31 _ _ _ _ _) rfl h_15 dX2_put_15 ?_
    refine lv_icmp_ge (tgt := 39) hx hb dX2_put_16 (by decide) (fun c_16 => ?_) (fun c_16 => ?_)
    · rw [if_pos c_16] at hf
      refine lv_aload_n hx hb dX2_put_39 rfl (lv_at hl 0 rfl) ?_
      refine va_get (D := D) (ci := 1) (v := .ref (ad 30)) (C := RX2) (T := TX2) (N := 15) hx hb hts in_X2_put_X2 hown hK hP 6 (wC_6 _ _ _ _ _) rfl 5 (by decide) (hts (.fieldLink RX2 15 "CallGraphs$DrawnRun" "bagged" "[I") (List.mem_of_getElem? (i := 2) rfl)) (fun _ h9 => h9) (fC_6_5 _ _) dX2_put_40 ?_
      refine lv_iload_n hx hb dX2_put_43 rfl (lv_at hl 3 rfl) ?_
      refine lv_aload_n hx hb dX2_put_44 rfl (lv_at hl 0 rfl) ?_
      refine va_get (D := D) (ci := 1) (v := .ref (ad 31)) (C := RX2) (T := TX2) (N := 15) hx hb hts in_X2_put_X2 hown hK hP 6 (wC_6 _ _ _ _ _) rfl 6 (by decide) (hts (.fieldLink RX2 18 "CallGraphs$DrawnRun" "bagCounts" "[I") (List.mem_of_getElem? (i := 1) rfl)) (fun _ h9 => h9) (fC_6_6 _ _) dX2_put_45 ?_
      refine lv_iload_n hx hb dX2_put_48 rfl (lv_at hl 1 rfl) ?_
      obtain ⟨h_49, hf⟩ := oi_e hf
      refine va_iald hx hb hK hP 31 0 (wC_31 _ _ _ _ _) rfl h_49 dX2_put_49 ?_
      refine lv_iadd hx hb dX2_put_50 ?_
      refine lv_iload_n hx hb dX2_put_51 rfl (lv_at hl 2 rfl) ?_
      obtain ⟨h_52, hf⟩ := oi_e hf
      refine va_iast hx hb hK hP (hD _) hS 30 0 (wC_30 _ _ _ _ _) rfl h_52 dX2_put_52 (fun H locs hP _ hS => ?_)
      have hP := wC_s30 hP
      obtain ⟨s_52, es_52, hf⟩ := os_e hf
      rw [← es_52] at hP
      refine lv_aload_n hx hb dX2_put_53 rfl (lv_at hl 0 rfl) ?_
      refine va_get (D := D) (ci := 1) (v := .ref (ad 31)) (C := RX2) (T := TX2) (N := 15) hx hb hts in_X2_put_X2 hown hK hP 6 (wC_6 _ _ _ _ _) rfl 6 (by decide) (hts (.fieldLink RX2 18 "CallGraphs$DrawnRun" "bagCounts" "[I") (List.mem_of_getElem? (i := 1) rfl)) (fun _ h9 => h9) (fC_6_6 _ _) dX2_put_54 ?_
      refine lv_iload_n hx hb dX2_put_57 rfl (lv_at hl 1 rfl) ?_
      refine lv_dup2_11 hx hb dX2_put_58 rfl rfl ?_
      obtain ⟨h_59, hf⟩ := oi_e hf
      refine va_iald hx hb hK hP 31 0 (wC_31 _ _ _ _ _) rfl h_59 dX2_put_59 ?_
      refine lv_iconst (v := 1) hx hb dX2_put_60 (by decide) ?_
      refine lv_iadd hx hb dX2_put_61 ?_
      obtain ⟨h_62, hf⟩ := oi_e hf
      refine va_iast hx hb hK hP (hD _) hS 31 0 (wC_31 _ _ _ _ _) rfl h_62 dX2_put_62 (fun H locs hP _ hS => ?_)
      have hP := wC_s31 hP
      obtain ⟨s_62, es_62, hf⟩ := os_e hf
      rw [← es_62] at hP
      exact rt_v (wd := wC ad cI cJ cZ) hx hb hr hlk (Option.some.inj hf) hP hS dX2_put_63
    · rw [if_neg c_16] at hf
      refine lv_aload_n hx hb dX2_put_19 rfl (lv_at hl 0 rfl) ?_
      refine va_get (D := D) (ci := 1) (v := .ref (ad 30)) (C := RX2) (T := TX2) (N := 15) hx hb hts in_X2_put_X2 hown hK hP 6 (wC_6 _ _ _ _ _) rfl 5 (by decide) (hts (.fieldLink RX2 15 "CallGraphs$DrawnRun" "bagged" "[I") (List.mem_of_getElem? (i := 2) rfl)) (fun _ h9 => h9) (fC_6_5 _ _) dX2_put_20 ?_
      refine lv_iload_n hx hb dX2_put_23 rfl (lv_at hl 3 rfl) ?_
      refine lv_iload hx hb dX2_put_24 (lv_at hl 4 rfl) ?_
      refine lv_iadd hx hb dX2_put_26 ?_
      obtain ⟨h_27, hf⟩ := oi_e hf
      refine va_iald hx hb hK hP 30 0 (wC_30 _ _ _ _ _) rfl h_27 dX2_put_27 ?_
      refine lv_iload_n hx hb dX2_put_28 rfl (lv_at hl 2 rfl) ?_
      refine lv_icmp_ne (tgt := 33) hx hb dX2_put_29 (by decide) (fun c_29 => ?_) (fun c_29 => ?_)
      · rw [if_neg c_29] at hf
        refine lv_iinc (v := (v4 + 1)) (lv' := [(4, .int (v4 + 1)), (0, .ref (ad 6)), (1, .int v1), (2, .int v2), (3, .int v3)]) hx hb dX2_put_33 hl (k := 4) rfl rfl (by decide) rfl (fun ls hl => ?_)
        refine lv_goto (tgt := 8) hx hb dX2_put_36 (by decide) ?_
        exact hk8 v1 v2 v3 (v4 + 1) σ hf _ _ _ hP hS (lv_sub hl [1, 2, 3, 4, 0] rfl)
      · rw [if_pos c_29] at hf
        exact rt_v (wd := wC ad cI cJ cZ) hx hb hr hlk (Option.some.inj hf) hP hS dX2_put_32
def p_X2_put_0 (v1 : Int32) (v2 : Int32) (σ : SS) : Option (SS) := p_X2_put_8 100000 v1 v2 (v1 * 48) 0 σ
set_option maxHeartbeats 4000000 in
set_option maxRecDepth 100000 in
theorem w_X2_put_0 {p : Program} {l : Launch} {e : Env} {R : Room} {s : State} {m : MethodId} {args : Array Value} {below : List Frame} {meth : Method} {c : Code} {D : va_G} {ad : Nat → Nat} {cI cJ cZ : ClassId} {res : SS} (hm : mx p s m args meth c cX2_put 5 none wsX2_put RX2) (hR : 0 ≤ R.frames ∧ 0 ≤ R.locals) (hK : va_K D vwCl (tyw cI cJ cZ) s) (hD : ∀ σ, va_D (aC ad) (wC ad cI cJ cZ σ)) (v1 : Int32) (v2 : Int32) (σ : SS) (hf : p_X2_put_0 v1 v2 σ = some res) (H : Heap) (locs : List Loc) (ls : Array Slot) (hP : va_P D vwCl (wC ad cI cJ cZ σ) H) (hS : va_S (aC ad) s.heap H locs) (hl : lv_has ls 5 [(0, .ref (ad 6)), (1, .int v1), (2, .int v2)]) : W p l e R s m args below meth c H locs 0 0 (MQ below (va_Qv (fun (u : SS) => u = res) (fun u t => va_P D vwCl (wC ad cI cJ cZ u) t.heap) (aC ad)) args s 0 0 (aC ad)) (F0 m 0 ls []) := by
  obtain ⟨hx, hb, hr, hml, hown, hts, hlk⟩ := id hm
  unfold p_X2_put_0 at hf
  refine lv_iload_n hx hb dX2_put_0 rfl (lv_at hl 1 rfl) ?_
  refine lv_bipush (v := 48) hx hb dX2_put_1 (by decide) ?_
  refine lv_imul hx hb dX2_put_3 ?_
  refine lv_istore_n (lv' := [(3, .int (v1 * 48)), (0, .ref (ad 6)), (1, .int v1), (2, .int v2)]) hx hb dX2_put_4 rfl hl (by decide) rfl (fun ls hl => ?_)
  refine lv_iconst (v := 0) hx hb dX2_put_5 (by decide) ?_
  refine lv_istore (lv' := [(4, .int 0), (3, .int (v1 * 48)), (0, .ref (ad 6)), (1, .int v1), (2, .int v2)]) hx hb dX2_put_6 hl (by decide) rfl (fun ls hl => ?_)
  exact w_X2_put_8 hm hR hK hD 100000 v1 v2 (v1 * 48) 0 σ hf _ _ _ hP hS (lv_sub hl [2, 3, 4, 1, 0] rfl)
theorem hd_X2_put : yX2_put.cls = RX2 ∧ yX2_put.cls ≠ "java/lang/invoke/MethodHandle" ∧ yX2_put.cls ≠ "java/lang/invoke/VarHandle" ∧ (parseMethodDescriptor yX2_put.desc).map (fun d => d.parameters.length) = some 2 := by decide +kernel
set_option maxHeartbeats 4000000 in
set_option maxRecDepth 100000 in
theorem c_X2_put (l : Launch) (D : va_G) (ad : Nat → Nat) (cI cJ cZ : ClassId) (σ : SS) (v1 : Int32) (v2 : Int32) {res : SS} (hf : p_X2_put_0 v1 v2 σ = some res) : Met l yX2_put wsX2_put ({ frames := 0, cells := 0, slots := 0, locals := 0 } : Room) (PW D (tyw cI cJ cZ) (wC ad cI cJ cZ σ) [.ref (ad 6), .int v1, .int v2]) (va_Qv (fun (u : SS) => u = res) (fun u t => va_P D vwCl (wC ad cI cJ cZ u) t.heap) (aC ad)) 0 0 (aC ad) := by
  refine Met.ofW (cc := cX2_put) (maxL := 5) (ret := none) (by decide) rfl ?_
  intro p e s m args below meth c s₁ B hml hv
  obtain ⟨rfl, hP, hK, hD0⟩ := hv
  have hD : ∀ σ, va_D (aC ad) (wC ad cI cJ cZ σ) := fun σ => wd_D hD0 (wC_map _ _ _ _ _) (wC_map _ _ _ _ _)
  have hm : mx p s m _ meth c cX2_put 5 none wsX2_put RX2 := ⟨B.exec, B.bytes, B.returns, hml, findClass_of_methodNamed B.named, atoms_spec (ws := wsX2_put) B.pre, B.notSynchronized⟩
  have hl := lv_entry ([.ref (ad 6), .int v1, .int v2]) (n := 5) (Nat.le_of_ble_eq_true rfl)
  rw [lg_entry_eq]
  generalize (lg_sl ([.ref (ad 6), .int v1, .int v2]) ++ List.replicate (5 - (lg_sl ([.ref (ad 6), .int v1, .int v2])).length) Slot.unset).toArray = ls at hl ⊢
  exact w_X2_put_0 hm ⟨Nat.le_refl _, Nat.le_refl _⟩ hK hD v1 v2 σ hf _ _ _ hP va_S.rf hl
/-! CallGraphs$DrawnRun.enterBy(III)V -/
theorem in_X2_enterBy_X2 : ∀ w ∈ u_ws RX2 TX2 15, w ∈ wsX2_enterBy := fun w h => List.mem_cons_of_mem _ (List.mem_append_left _ (List.mem_append_left _ (List.mem_append_left _ (List.mem_append_left _ (List.mem_append_right _ h)))))
theorem hd_X2_enter : yX2_enter.cls = RX2 ∧ yX2_enter.cls ≠ "java/lang/invoke/MethodHandle" ∧ yX2_enter.cls ≠ "java/lang/invoke/VarHandle" ∧ (parseMethodDescriptor yX2_enter.desc).map (fun d => d.parameters.length) = some 2 := by decide +kernel
theorem hd_X2_begin : yX2_begin.cls = RX2 ∧ yX2_begin.cls ≠ "java/lang/invoke/MethodHandle" ∧ yX2_begin.cls ≠ "java/lang/invoke/VarHandle" ∧ (parseMethodDescriptor yX2_begin.desc).map (fun d => d.parameters.length) = some 3 := by decide +kernel
def p_X2_enterBy_0 (E : Int32 → Int32 → SS → Option SS) (v1 : Int32) (v2 : Int32) (v3 : Int32) (σ : SS) : Option (SS) := if 0 ≤ v2 then oi v1 160 (oc (p_X0_with_0 (σ.2 32 v1.toNatClampNeg) v2) (fun r_17 => oi v1 160 (os (sL σ 32 (v1.toNatClampNeg) r_17) (fun s_20 => oc (E v2 v3 s_20) (fun r_24 => some r_24))))) else some σ
set_option maxHeartbeats 4000000 in
set_option maxRecDepth 100000 in
theorem w_X2_enterBy_0 {p : Program} {l : Launch} {e : Env} {R : Room} {s : State} {m : MethodId} {args : Array Value} {below : List Frame} {meth : Method} {c : Code} {D : va_G} {ad : Nat → Nat} {cI cJ cZ : ClassId} {fE nE : Nat} {res : SS} (hm : mx p s m args meth c cX2_enterBy 4 none wsX2_enterBy RX2) (hR : fE + 1 ≤ R.frames ∧ nE + 23 ≤ R.locals) (hK : va_K D vwCl (tyw cI cJ cZ) s) (hD : ∀ σ, va_D (aC ad) (wC ad cI cJ cZ σ)) (E : Int32 → Int32 → SS → Option SS) (hE : ∀ (v1 v2 : Int32) (σ : SS) {res : SS}, E v1 v2 σ = some res → Met l yX2_enter wsX2_enter ({ frames := fE, cells := 0, slots := 0, locals := nE } : Room) (PW D (tyw cI cJ cZ) (wC ad cI cJ cZ σ) [.ref (ad 6), .int v1, .int v2]) (va_Qv (fun (u : SS) => u = res) (fun u t => va_P D vwCl (wC ad cI cJ cZ u) t.heap) (aC ad)) 0 0 (aC ad)) (v1 : Int32) (v2 : Int32) (v3 : Int32) (σ : SS) (hf : p_X2_enterBy_0 E v1 v2 v3 σ = some res) (H : Heap) (locs : List Loc) (ls : Array Slot) (hP : va_P D vwCl (wC ad cI cJ cZ σ) H) (hS : va_S (aC ad) s.heap H locs) (hl : lv_has ls 4 [(0, .ref (ad 6)), (1, .int v1), (2, .int v2), (3, .int v3)]) : W p l e R s m args below meth c H locs 0 0 (MQ below (va_Qv (fun (u : SS) => u = res) (fun u t => va_P D vwCl (wC ad cI cJ cZ u) t.heap) (aC ad)) args s 0 0 (aC ad)) (F0 m 0 ls []) := by
  obtain ⟨hx, hb, hr, hml, hown, hts, hlk⟩ := id hm
  obtain ⟨hR1, hR2⟩ := id hR
  unfold p_X2_enterBy_0 at hf
  refine lv_iload_n hx hb dX2_enterBy_0 rfl (lv_at hl 2 rfl) ?_
  refine lv_if_ge (tgt := 5) hx hb dX2_enterBy_1 (by decide) (fun c_1 => ?_) (fun c_1 => ?_)
  · rw [if_pos c_1] at hf
    refine lv_aload_n hx hb dX2_enterBy_5 rfl (lv_at hl 0 rfl) ?_
    refine va_get (D := D) (ci := 1) (v := .ref (ad 32)) (C := RX2) (T := TX2) (N := 15) hx hb hts in_X2_enterBy_X2 hown hK hP 6 (wC_6 _ _ _ _ _) rfl 7 (by decide) (hts (.fieldLink RX2 21 "CallGraphs$DrawnRun" "tried" "[J") (List.mem_of_getElem? (i := 1) rfl)) (fun _ h9 => h9) (fC_6_7 _ _) dX2_enterBy_6 ?_
    refine lv_iload_n hx hb dX2_enterBy_9 rfl (lv_at hl 1 rfl) ?_
    refine lv_aload_n hx hb dX2_enterBy_10 rfl (lv_at hl 0 rfl) ?_
    refine va_get (D := D) (ci := 1) (v := .ref (ad 32)) (C := RX2) (T := TX2) (N := 15) hx hb hts in_X2_enterBy_X2 hown hK hP 6 (wC_6 _ _ _ _ _) rfl 7 (by decide) (hts (.fieldLink RX2 21 "CallGraphs$DrawnRun" "tried" "[J") (List.mem_of_getElem? (i := 1) rfl)) (fun _ h9 => h9) (fC_6_7 _ _) dX2_enterBy_11 ?_
    refine lv_iload_n hx hb dX2_enterBy_14 rfl (lv_at hl 1 rfl) ?_
    obtain ⟨h_15, hf⟩ := oi_e hf
    refine va_lald hx hb hK hP 32 1 (wC_32 _ _ _ _ _) rfl h_15 dX2_enterBy_15 ?_
    refine lv_iload_n hx hb dX2_enterBy_16 rfl (lv_at hl 2 rfl) ?_
    obtain ⟨r_17, hg_17, hf⟩ := oc_e hf
    refine mS_l (D := D) (As := [.long (σ.2 32 v1.toNatClampNeg), .int v2]) (rest := [.int v1, .ref (ad 32)]) ⟨hx, hb, hml, hown, hts⟩ hP hS (c_X0_with l (σ.2 32 v1.toNatClampNeg) v2 hg_17) (va_cwS 2 hts gX2_enterBy_X0_with rfl rfl rfl hd_X0_with ⟨by show 0 + 1 ≤ R.frames; omega, by show 8 + (3 + 11) + (0) ≤ R.locals; omega⟩) rfl hl.1 rfl (Nat.le_of_ble_eq_true rfl) dX2_enterBy_17 (fun H locs hP hS => ?_)
    obtain ⟨h_20, hf⟩ := oi_e hf
    refine va_last hx hb hK hP (hD _) hS 32 1 (wC_32 _ _ _ _ _) rfl h_20 dX2_enterBy_20 (fun H locs hP _ hS => ?_)
    have hP := wC_s32 hP
    obtain ⟨s_20, es_20, hf⟩ := os_e hf
    rw [← es_20] at hP
    refine lv_aload_n hx hb dX2_enterBy_21 rfl (lv_at hl 0 rfl) ?_
    refine lv_iload_n hx hb dX2_enterBy_22 rfl (lv_at hl 2 rfl) ?_
    refine lv_iload_n hx hb dX2_enterBy_23 rfl (lv_at hl 3 rfl) ?_
    obtain ⟨r_24, hg_24, hf⟩ := oc_e hf
    refine mV_wv (wd := wC ad cI cJ cZ) (σ := s_20) (As := [.int v2, .int v3]) (rest := []) ⟨hx, hb, hml, hown, hts⟩ hK hP hD hS (hE v2 v3 s_20 hg_24) (cwV 2 hts gX2_enterBy_X2_enter rfl rfl rfl hd_X2_enter ⟨by show fE + 1 ≤ R.frames; omega, by show 8 + (4 + 11) + (nE) ≤ R.locals; omega⟩) rfl (wC_6 _ _ _ _ _) rfl hl.1 rfl (Nat.le_of_ble_eq_true rfl) dX2_enterBy_24 (fun H locs hP hS => ?_)
    exact rt_v (wd := wC ad cI cJ cZ) hx hb hr hlk (Option.some.inj hf) hP hS dX2_enterBy_27
  · rw [if_neg c_1] at hf
    exact rt_v (wd := wC ad cI cJ cZ) hx hb hr hlk (Option.some.inj hf) hP hS dX2_enterBy_4
theorem hd_X2_enterBy : yX2_enterBy.cls = RX2 ∧ yX2_enterBy.cls ≠ "java/lang/invoke/MethodHandle" ∧ yX2_enterBy.cls ≠ "java/lang/invoke/VarHandle" ∧ (parseMethodDescriptor yX2_enterBy.desc).map (fun d => d.parameters.length) = some 3 := by decide +kernel
set_option maxHeartbeats 4000000 in
set_option maxRecDepth 100000 in
theorem c_X2_enterBy (l : Launch) (D : va_G) (ad : Nat → Nat) (cI cJ cZ : ClassId) {fE nE : Nat} (E : Int32 → Int32 → SS → Option SS) (hE : ∀ (v1 v2 : Int32) (σ : SS) {res : SS}, E v1 v2 σ = some res → Met l yX2_enter wsX2_enter ({ frames := fE, cells := 0, slots := 0, locals := nE } : Room) (PW D (tyw cI cJ cZ) (wC ad cI cJ cZ σ) [.ref (ad 6), .int v1, .int v2]) (va_Qv (fun (u : SS) => u = res) (fun u t => va_P D vwCl (wC ad cI cJ cZ u) t.heap) (aC ad)) 0 0 (aC ad)) (σ : SS) (v1 : Int32) (v2 : Int32) (v3 : Int32) {res : SS} (hf : p_X2_enterBy_0 E v1 v2 v3 σ = some res) : Met l yX2_enterBy wsX2_enterBy ({ frames := fE + 1, cells := 0, slots := 0, locals := nE + 23 } : Room) (PW D (tyw cI cJ cZ) (wC ad cI cJ cZ σ) [.ref (ad 6), .int v1, .int v2, .int v3]) (va_Qv (fun (u : SS) => u = res) (fun u t => va_P D vwCl (wC ad cI cJ cZ u) t.heap) (aC ad)) 0 0 (aC ad) := by
  refine Met.ofW (cc := cX2_enterBy) (maxL := 4) (ret := none) (by decide) rfl ?_
  intro p e s m args below meth c s₁ B9 hml hv
  obtain ⟨rfl, hP, hK, hD0⟩ := hv
  have hD : ∀ σ, va_D (aC ad) (wC ad cI cJ cZ σ) := fun σ => wd_D hD0 (wC_map _ _ _ _ _) (wC_map _ _ _ _ _)
  have hm : mx p s m _ meth c cX2_enterBy 4 none wsX2_enterBy RX2 := ⟨B9.exec, B9.bytes, B9.returns, hml, findClass_of_methodNamed B9.named, atoms_spec (ws := wsX2_enterBy) B9.pre, B9.notSynchronized⟩
  have hl := lv_entry ([.ref (ad 6), .int v1, .int v2, .int v3]) (n := 4) (Nat.le_of_ble_eq_true rfl)
  rw [lg_entry_eq]
  generalize (lg_sl ([.ref (ad 6), .int v1, .int v2, .int v3]) ++ List.replicate (4 - (lg_sl ([.ref (ad 6), .int v1, .int v2, .int v3])).length) Slot.unset).toArray = ls at hl ⊢
  exact w_X2_enterBy_0 hm ⟨Nat.le_refl _, Nat.le_refl _⟩ hK hD E hE v1 v2 v3 σ hf _ _ _ hP va_S.rf hl
/-! CallGraphs$DrawnRun.begin(III)V -/
theorem in_X2_begin_X2 : ∀ w ∈ u_ws RX2 TX2 15, w ∈ wsX2_begin := fun w h => List.mem_cons_of_mem _ (List.mem_append_left _ (List.mem_append_left _ (List.mem_append_left _ (List.mem_append_left _ (List.mem_append_right _ h)))))
def p_X2_begin_16 (E : Int32 → Int32 → SS → Option SS) (B : Int32 → Int32 → Int32 → SS → Option SS) (σ : SS) : Option (SS) := some σ
set_option maxHeartbeats 4000000 in
set_option maxRecDepth 100000 in
theorem w_X2_begin_16 {p : Program} {l : Launch} {e : Env} {R : Room} {s : State} {m : MethodId} {args : Array Value} {below : List Frame} {meth : Method} {c : Code} {D : va_G} {ad : Nat → Nat} {cI cJ cZ : ClassId} {fE nE fB nB : Nat} {res : SS} (hm : mx p s m args meth c cX2_begin 7 none wsX2_begin RX2) (hR : (fE + 2 ≤ R.frames ∧ nE + 46 ≤ R.locals) ∧ (fB + 1 ≤ R.frames ∧ nB + 26 ≤ R.locals)) (hK : va_K D vwCl (tyw cI cJ cZ) s) (hD : ∀ σ, va_D (aC ad) (wC ad cI cJ cZ σ)) (E : Int32 → Int32 → SS → Option SS) (hE : ∀ (v1 v2 : Int32) (σ : SS) {res : SS}, E v1 v2 σ = some res → Met l yX2_enter wsX2_enter ({ frames := fE, cells := 0, slots := 0, locals := nE } : Room) (PW D (tyw cI cJ cZ) (wC ad cI cJ cZ σ) [.ref (ad 6), .int v1, .int v2]) (va_Qv (fun (u : SS) => u = res) (fun u t => va_P D vwCl (wC ad cI cJ cZ u) t.heap) (aC ad)) 0 0 (aC ad)) (B : Int32 → Int32 → Int32 → SS → Option SS) (hB : ∀ (v1 v2 v3 : Int32) (σ : SS) {res : SS}, B v1 v2 v3 σ = some res → Met l yX2_begin wsX2_begin ({ frames := fB, cells := 0, slots := 0, locals := nB } : Room) (PW D (tyw cI cJ cZ) (wC ad cI cJ cZ σ) [.ref (ad 6), .int v1, .int v2, .int v3]) (va_Qv (fun (u : SS) => u = res) (fun u t => va_P D vwCl (wC ad cI cJ cZ u) t.heap) (aC ad)) 0 0 (aC ad)) (σ : SS) (hf : p_X2_begin_16 E B σ = some res) (H : Heap) (locs : List Loc) (ls : Array Slot) (hP : va_P D vwCl (wC ad cI cJ cZ σ) H) (hS : va_S (aC ad) s.heap H locs) (hl : lv_has ls 7 []) : W p l e R s m args below meth c H locs 0 0 (MQ below (va_Qv (fun (u : SS) => u = res) (fun u t => va_P D vwCl (wC ad cI cJ cZ u) t.heap) (aC ad)) args s 0 0 (aC ad)) (F0 m 16 ls []) := by
  obtain ⟨hx, hb, hr, hml, hown, hts, hlk⟩ := id hm
  obtain ⟨⟨hR1, hR2⟩, ⟨hR3, hR4⟩⟩ := id hR
  unfold p_X2_begin_16 at hf
  exact rt_v (wd := wC ad cI cJ cZ) hx hb hr hlk (Option.some.inj hf) hP hS dX2_begin_16
def p_X2_begin_80 (E : Int32 → Int32 → SS → Option SS) (B : Int32 → Int32 → Int32 → SS → Option SS) (k56 : Int32 → Int32 → Int32 → Int64 → Int32 → SS → Option (SS)) (v1 : Int32) (v2 : Int32) (v3 : Int32) (v4 : Int64) (v6 : Int32) (σ : SS) : Option (SS) := k56 v1 v2 v3 v4 (v6 + 1) σ
set_option maxHeartbeats 4000000 in
set_option maxRecDepth 100000 in
theorem w_X2_begin_80 {p : Program} {l : Launch} {e : Env} {R : Room} {s : State} {m : MethodId} {args : Array Value} {below : List Frame} {meth : Method} {c : Code} {D : va_G} {ad : Nat → Nat} {cI cJ cZ : ClassId} {fE nE fB nB : Nat} {res : SS} (hm : mx p s m args meth c cX2_begin 7 none wsX2_begin RX2) (hR : (fE + 2 ≤ R.frames ∧ nE + 46 ≤ R.locals) ∧ (fB + 1 ≤ R.frames ∧ nB + 26 ≤ R.locals)) (hK : va_K D vwCl (tyw cI cJ cZ) s) (hD : ∀ σ, va_D (aC ad) (wC ad cI cJ cZ σ)) (E : Int32 → Int32 → SS → Option SS) (hE : ∀ (v1 v2 : Int32) (σ : SS) {res : SS}, E v1 v2 σ = some res → Met l yX2_enter wsX2_enter ({ frames := fE, cells := 0, slots := 0, locals := nE } : Room) (PW D (tyw cI cJ cZ) (wC ad cI cJ cZ σ) [.ref (ad 6), .int v1, .int v2]) (va_Qv (fun (u : SS) => u = res) (fun u t => va_P D vwCl (wC ad cI cJ cZ u) t.heap) (aC ad)) 0 0 (aC ad)) (B : Int32 → Int32 → Int32 → SS → Option SS) (hB : ∀ (v1 v2 v3 : Int32) (σ : SS) {res : SS}, B v1 v2 v3 σ = some res → Met l yX2_begin wsX2_begin ({ frames := fB, cells := 0, slots := 0, locals := nB } : Room) (PW D (tyw cI cJ cZ) (wC ad cI cJ cZ σ) [.ref (ad 6), .int v1, .int v2, .int v3]) (va_Qv (fun (u : SS) => u = res) (fun u t => va_P D vwCl (wC ad cI cJ cZ u) t.heap) (aC ad)) 0 0 (aC ad)) (k56 : Int32 → Int32 → Int32 → Int64 → Int32 → SS → Option (SS)) (hk56 : ∀ (v1 : Int32) (v2 : Int32) (v3 : Int32) (v4 : Int64) (v6 : Int32) (σ : SS), k56 v1 v2 v3 v4 v6 σ = some res → ∀ (H : Heap) (locs : List Loc) (ls : Array Slot), va_P D vwCl (wC ad cI cJ cZ σ) H → va_S (aC ad) s.heap H locs → lv_has ls 7 [(0, .ref (ad 6)), (1, .int v1), (2, .int v2), (3, .int v3), (4, .long v4), (6, .int v6)] → W p l e R s m args below meth c H locs 0 0 (MQ below (va_Qv (fun (u : SS) => u = res) (fun u t => va_P D vwCl (wC ad cI cJ cZ u) t.heap) (aC ad)) args s 0 0 (aC ad)) (F0 m 56 ls [])) (v1 : Int32) (v2 : Int32) (v3 : Int32) (v4 : Int64) (v6 : Int32) (σ : SS) (hf : p_X2_begin_80 E B k56 v1 v2 v3 v4 v6 σ = some res) (H : Heap) (locs : List Loc) (ls : Array Slot) (hP : va_P D vwCl (wC ad cI cJ cZ σ) H) (hS : va_S (aC ad) s.heap H locs) (hl : lv_has ls 7 [(0, .ref (ad 6)), (1, .int v1), (2, .int v2), (3, .int v3), (4, .long v4), (6, .int v6)]) : W p l e R s m args below meth c H locs 0 0 (MQ below (va_Qv (fun (u : SS) => u = res) (fun u t => va_P D vwCl (wC ad cI cJ cZ u) t.heap) (aC ad)) args s 0 0 (aC ad)) (F0 m 80 ls []) := by
  obtain ⟨hx, hb, hr, hml, hown, hts, hlk⟩ := id hm
  obtain ⟨⟨hR1, hR2⟩, ⟨hR3, hR4⟩⟩ := id hR
  unfold p_X2_begin_80 at hf
  refine lv_iinc (v := (v6 + 1)) (lv' := [(6, .int (v6 + 1)), (0, .ref (ad 6)), (1, .int v1), (2, .int v2), (3, .int v3), (4, .long v4)]) hx hb dX2_begin_80 hl (k := 5) rfl rfl (by decide) rfl (fun ls hl => ?_)
  refine lv_goto (tgt := 56) hx hb dX2_begin_83 (by decide) ?_
  exact hk56 v1 v2 v3 v4 (v6 + 1) σ hf _ _ _ hP hS (lv_sub hl [1, 2, 3, 4, 5, 0] rfl)
def p_X2_begin_56 (E : Int32 → Int32 → SS → Option SS) (B : Int32 → Int32 → Int32 → SS → Option SS) : Nat → Int32 → Int32 → Int32 → Int64 → Int32 → SS → Option (SS)
  | 0, _, _, _, _, _, _ => none
  | n + 1, v1, v2, v3, v4, v6, σ => let k56 := p_X2_begin_56 E B n; if v1 ≤ v6 then oc (p_X4_startOf_0 σ v1) (fun r_93 => oc (p_X2_enterBy_0 E v2 r_93 v3 σ) (fun r_97 => some r_97)) else oc (p_X0_has_0 v4 v6) (fun r_66 => if r_66 = 0 then p_X2_begin_80 E B k56 v1 v2 v3 v4 v6 σ else oc (B v6 v2 v3 σ) (fun r_77 => p_X2_begin_80 E B k56 v1 v2 v3 v4 v6 r_77))
set_option maxHeartbeats 4000000 in
set_option maxRecDepth 100000 in
theorem w_X2_begin_56 {p : Program} {l : Launch} {e : Env} {R : Room} {s : State} {m : MethodId} {args : Array Value} {below : List Frame} {meth : Method} {c : Code} {D : va_G} {ad : Nat → Nat} {cI cJ cZ : ClassId} {fE nE fB nB : Nat} {res : SS} (hm : mx p s m args meth c cX2_begin 7 none wsX2_begin RX2) (hR : (fE + 2 ≤ R.frames ∧ nE + 46 ≤ R.locals) ∧ (fB + 1 ≤ R.frames ∧ nB + 26 ≤ R.locals)) (hK : va_K D vwCl (tyw cI cJ cZ) s) (hD : ∀ σ, va_D (aC ad) (wC ad cI cJ cZ σ)) (E : Int32 → Int32 → SS → Option SS) (hE : ∀ (v1 v2 : Int32) (σ : SS) {res : SS}, E v1 v2 σ = some res → Met l yX2_enter wsX2_enter ({ frames := fE, cells := 0, slots := 0, locals := nE } : Room) (PW D (tyw cI cJ cZ) (wC ad cI cJ cZ σ) [.ref (ad 6), .int v1, .int v2]) (va_Qv (fun (u : SS) => u = res) (fun u t => va_P D vwCl (wC ad cI cJ cZ u) t.heap) (aC ad)) 0 0 (aC ad)) (B : Int32 → Int32 → Int32 → SS → Option SS) (hB : ∀ (v1 v2 v3 : Int32) (σ : SS) {res : SS}, B v1 v2 v3 σ = some res → Met l yX2_begin wsX2_begin ({ frames := fB, cells := 0, slots := 0, locals := nB } : Room) (PW D (tyw cI cJ cZ) (wC ad cI cJ cZ σ) [.ref (ad 6), .int v1, .int v2, .int v3]) (va_Qv (fun (u : SS) => u = res) (fun u t => va_P D vwCl (wC ad cI cJ cZ u) t.heap) (aC ad)) 0 0 (aC ad)) : ∀ (n : Nat) (v1 : Int32) (v2 : Int32) (v3 : Int32) (v4 : Int64) (v6 : Int32) (σ : SS), p_X2_begin_56 E B n v1 v2 v3 v4 v6 σ = some res → ∀ (H : Heap) (locs : List Loc) (ls : Array Slot), va_P D vwCl (wC ad cI cJ cZ σ) H → va_S (aC ad) s.heap H locs → lv_has ls 7 [(0, .ref (ad 6)), (1, .int v1), (2, .int v2), (3, .int v3), (4, .long v4), (6, .int v6)] → W p l e R s m args below meth c H locs 0 0 (MQ below (va_Qv (fun (u : SS) => u = res) (fun u t => va_P D vwCl (wC ad cI cJ cZ u) t.heap) (aC ad)) args s 0 0 (aC ad)) (F0 m 56 ls []) := by
  obtain ⟨hx, hb, hr, hml, hown, hts, hlk⟩ := id hm
  obtain ⟨⟨hR1, hR2⟩, ⟨hR3, hR4⟩⟩ := id hR
  intro n
  induction n with
  | zero =>
    intro _ _ _ _ _ _ hf
    cases hf
  | succ n hk56 =>
    intro v1 v2 v3 v4 v6 σ hf H locs ls hP hS hl
    rw [p_X2_begin_56] at hf
    try dsimp only at hf
    refine lv_iload hx hb dX2_begin_56 (lv_at hl 5 rfl) ?_
    refine lv_iload_n hx hb dX2_begin_58 rfl (lv_at hl 1 rfl) ?_
    refine lv_icmp_ge (tgt := 86) hx hb dX2_begin_59 (by decide) (fun c_59 => ?_) (fun c_59 => ?_)
    · rw [if_pos c_59] at hf
      refine lv_aload_n hx hb dX2_begin_86 rfl (lv_at hl 0 rfl) ?_
      refine lv_iload_n hx hb dX2_begin_87 rfl (lv_at hl 2 rfl) ?_
      refine lv_aload_n hx hb dX2_begin_88 rfl (lv_at hl 0 rfl) ?_
      refine va_get (D := D) (ci := 1) (v := .ref (ad 2)) (C := RX2) (T := TX2) (N := 15) hx hb hts in_X2_begin_X2 hown hK hP 6 (wC_6 _ _ _ _ _) rfl 1 (by decide) (hts (.fieldLink RX2 29 "CallGraphs$DrawnRun" "members" "LCallGraphs$Members;") (List.mem_of_getElem? (i := 3) rfl)) (fun _ h9 => h9) (fC_6_1 _ _) dX2_begin_89 ?_
      refine lv_iload_n hx hb dX2_begin_92 rfl (lv_at hl 1 rfl) ?_
      obtain ⟨r_93, hg_93, hf⟩ := oc_e hf
      refine mV_ri (wd := wC ad cI cJ cZ) (σ := σ) (As := [.int v1]) (rest := [.int v2, .ref (ad 6)]) ⟨hx, hb, hml, hown, hts⟩ hK hP hD hS (c_X4_startOf l D ad cI cJ cZ σ v1 hg_93) (cwV 1 hts gX2_begin_X4_startOf rfl rfl rfl hd_X4_startOf ⟨by show 0 + 1 ≤ R.frames; omega, by show 8 + (2 + 11) + (0) ≤ R.locals; omega⟩) rfl (wC_2 _ _ _ _ _) rfl hl.1 rfl (Nat.le_of_ble_eq_true rfl) dX2_begin_93 (fun H locs hP hS => ?_)
      refine lv_iload_n hx hb dX2_begin_96 rfl (lv_at hl 3 rfl) ?_
      obtain ⟨r_97, hg_97, hf⟩ := oc_e hf
      refine mV_wv (wd := wC ad cI cJ cZ) (σ := σ) (As := [.int v2, .int r_93, .int v3]) (rest := []) ⟨hx, hb, hml, hown, hts⟩ hK hP hD hS (c_X2_enterBy l D ad cI cJ cZ E hE σ v2 r_93 v3 hg_97) (cwV 3 hts gX2_begin_X2_enterBy rfl rfl rfl hd_X2_enterBy ⟨by show fE + 1 + 1 ≤ R.frames; omega, by show 8 + (4 + 11) + (nE + 23) ≤ R.locals; omega⟩) rfl (wC_6 _ _ _ _ _) rfl hl.1 rfl (Nat.le_of_ble_eq_true rfl) dX2_begin_97 (fun H locs hP hS => ?_)
      exact rt_v (wd := wC ad cI cJ cZ) hx hb hr hlk (Option.some.inj hf) hP hS dX2_begin_100
    · rw [if_neg c_59] at hf
      refine lv_lload hx hb dX2_begin_62 (lv_at hl 4 rfl) ?_
      refine lv_iload hx hb dX2_begin_64 (lv_at hl 5 rfl) ?_
      obtain ⟨r_66, hg_66, hf⟩ := oc_e hf
      refine mS_i (D := D) (As := [.long v4, .int v6]) (rest := []) ⟨hx, hb, hml, hown, hts⟩ hP hS (c_X0_has l v4 v6 hg_66) (va_cwS 2 hts gX2_begin_X0_has rfl rfl rfl hd_X0_has ⟨by show 0 + 1 ≤ R.frames; omega, by show 8 + (3 + 11) + (0) ≤ R.locals; omega⟩) rfl hl.1 rfl (Nat.le_of_ble_eq_true rfl) dX2_begin_66 (fun H locs hP hS => ?_)
      refine lv_if_eq (tgt := 80) hx hb dX2_begin_69 (by decide) (fun c_69 => ?_) (fun c_69 => ?_)
      · rw [if_pos c_69] at hf
        exact w_X2_begin_80 hm hR hK hD E hE B hB (p_X2_begin_56 E B n) hk56 v1 v2 v3 v4 v6 σ hf _ _ _ hP hS (lv_sub hl [0, 1, 2, 3, 4, 5] rfl)
      · rw [if_neg c_69] at hf
        refine lv_aload_n hx hb dX2_begin_72 rfl (lv_at hl 0 rfl) ?_
        refine lv_iload hx hb dX2_begin_73 (lv_at hl 5 rfl) ?_
        refine lv_iload_n hx hb dX2_begin_75 rfl (lv_at hl 2 rfl) ?_
        refine lv_iload_n hx hb dX2_begin_76 rfl (lv_at hl 3 rfl) ?_
        obtain ⟨r_77, hg_77, hf⟩ := oc_e hf
        refine mV_wv (wd := wC ad cI cJ cZ) (σ := σ) (As := [.int v6, .int v2, .int v3]) (rest := []) ⟨hx, hb, hml, hown, hts⟩ hK hP hD hS (hB v6 v2 v3 σ hg_77) (cwV 3 hts gX2_begin_X2_begin rfl rfl rfl hd_X2_begin ⟨by show fB + 1 ≤ R.frames; omega, by show 8 + (7 + 11) + (nB) ≤ R.locals; omega⟩) rfl (wC_6 _ _ _ _ _) rfl hl.1 rfl (Nat.le_of_ble_eq_true rfl) dX2_begin_77 (fun H locs hP hS => ?_)
        exact w_X2_begin_80 hm hR hK hD E hE B hB (p_X2_begin_56 E B n) hk56 v1 v2 v3 v4 v6 r_77 hf _ _ _ hP hS (lv_sub hl [0, 1, 2, 3, 4, 5] rfl)
def p_X2_begin_0 (E : Int32 → Int32 → SS → Option SS) (B : Int32 → Int32 → Int32 → SS → Option SS) (v1 : Int32) (v2 : Int32) (v3 : Int32) (σ : SS) : Option (SS) := if v1 = (-1) then p_X2_begin_16 E B σ else oc (p_X0_has_0 (σ.2 6 10) v1) (fun r_10 => if r_10 = 0 then oc (p_X0_with_0 (σ.2 6 10) v1) (fun r_23 => os (sL σ 6 10 r_23) (fun s_26 => oc (p_X6_superOf_0 s_26 v1) (fun r_35 => oc (B r_35 v2 v3 s_26) (fun r_40 => oc (p_X4_facesBegunWith_0 r_40 v1) (fun r_48 => p_X2_begin_56 E B 100000 v1 v2 v3 r_48 0 r_40))))) else p_X2_begin_16 E B σ)
set_option maxHeartbeats 4000000 in
set_option maxRecDepth 100000 in
theorem w_X2_begin_0 {p : Program} {l : Launch} {e : Env} {R : Room} {s : State} {m : MethodId} {args : Array Value} {below : List Frame} {meth : Method} {c : Code} {D : va_G} {ad : Nat → Nat} {cI cJ cZ : ClassId} {fE nE fB nB : Nat} {res : SS} (hm : mx p s m args meth c cX2_begin 7 none wsX2_begin RX2) (hR : (fE + 2 ≤ R.frames ∧ nE + 46 ≤ R.locals) ∧ (fB + 1 ≤ R.frames ∧ nB + 26 ≤ R.locals)) (hK : va_K D vwCl (tyw cI cJ cZ) s) (hD : ∀ σ, va_D (aC ad) (wC ad cI cJ cZ σ)) (E : Int32 → Int32 → SS → Option SS) (hE : ∀ (v1 v2 : Int32) (σ : SS) {res : SS}, E v1 v2 σ = some res → Met l yX2_enter wsX2_enter ({ frames := fE, cells := 0, slots := 0, locals := nE } : Room) (PW D (tyw cI cJ cZ) (wC ad cI cJ cZ σ) [.ref (ad 6), .int v1, .int v2]) (va_Qv (fun (u : SS) => u = res) (fun u t => va_P D vwCl (wC ad cI cJ cZ u) t.heap) (aC ad)) 0 0 (aC ad)) (B : Int32 → Int32 → Int32 → SS → Option SS) (hB : ∀ (v1 v2 v3 : Int32) (σ : SS) {res : SS}, B v1 v2 v3 σ = some res → Met l yX2_begin wsX2_begin ({ frames := fB, cells := 0, slots := 0, locals := nB } : Room) (PW D (tyw cI cJ cZ) (wC ad cI cJ cZ σ) [.ref (ad 6), .int v1, .int v2, .int v3]) (va_Qv (fun (u : SS) => u = res) (fun u t => va_P D vwCl (wC ad cI cJ cZ u) t.heap) (aC ad)) 0 0 (aC ad)) (v1 : Int32) (v2 : Int32) (v3 : Int32) (σ : SS) (hf : p_X2_begin_0 E B v1 v2 v3 σ = some res) (H : Heap) (locs : List Loc) (ls : Array Slot) (hP : va_P D vwCl (wC ad cI cJ cZ σ) H) (hS : va_S (aC ad) s.heap H locs) (hl : lv_has ls 7 [(0, .ref (ad 6)), (1, .int v1), (2, .int v2), (3, .int v3)]) : W p l e R s m args below meth c H locs 0 0 (MQ below (va_Qv (fun (u : SS) => u = res) (fun u t => va_P D vwCl (wC ad cI cJ cZ u) t.heap) (aC ad)) args s 0 0 (aC ad)) (F0 m 0 ls []) := by
  obtain ⟨hx, hb, hr, hml, hown, hts, hlk⟩ := id hm
  obtain ⟨⟨hR1, hR2⟩, ⟨hR3, hR4⟩⟩ := id hR
  unfold p_X2_begin_0 at hf
  refine lv_iload_n hx hb dX2_begin_0 rfl (lv_at hl 1 rfl) ?_
  refine lv_iconst (v := (-1)) hx hb dX2_begin_1 (by decide) ?_
  refine lv_icmp_eq (tgt := 16) hx hb dX2_begin_2 (by decide) (fun c_2 => ?_) (fun c_2 => ?_)
  · rw [if_pos c_2] at hf
    exact w_X2_begin_16 hm hR hK hD E hE B hB σ hf _ _ _ hP hS (lv_sub hl [] rfl)
  · rw [if_neg c_2] at hf
    refine lv_aload_n hx hb dX2_begin_5 rfl (lv_at hl 0 rfl) ?_
    refine va_get (D := D) (ci := 1) (v := .long (σ.2 6 10)) (C := RX2) (T := TX2) (N := 15) hx hb hts in_X2_begin_X2 hown hK hP 6 (wC_6 _ _ _ _ _) rfl 10 (by decide) (hts (.fieldLink RX2 52 "CallGraphs$DrawnRun" "begun" "J") (List.mem_of_getElem? (i := 1) rfl)) (fun _ h9 => h9) (fC_6_10 _ _) dX2_begin_6 ?_
    refine lv_iload_n hx hb dX2_begin_9 rfl (lv_at hl 1 rfl) ?_
    obtain ⟨r_10, hg_10, hf⟩ := oc_e hf
    refine mS_i (D := D) (As := [.long (σ.2 6 10), .int v1]) (rest := []) ⟨hx, hb, hml, hown, hts⟩ hP hS (c_X0_has l (σ.2 6 10) v1 hg_10) (va_cwS 2 hts gX2_begin_X0_has rfl rfl rfl hd_X0_has ⟨by show 0 + 1 ≤ R.frames; omega, by show 8 + (3 + 11) + (0) ≤ R.locals; omega⟩) rfl hl.1 rfl (Nat.le_of_ble_eq_true rfl) dX2_begin_10 (fun H locs hP hS => ?_)
    refine lv_if_eq (tgt := 17) hx hb dX2_begin_13 (by decide) (fun c_13 => ?_) (fun c_13 => ?_)
    · rw [if_pos c_13] at hf
      refine lv_aload_n hx hb dX2_begin_17 rfl (lv_at hl 0 rfl) ?_
      refine lv_aload_n hx hb dX2_begin_18 rfl (lv_at hl 0 rfl) ?_
      refine va_get (D := D) (ci := 1) (v := .long (σ.2 6 10)) (C := RX2) (T := TX2) (N := 15) hx hb hts in_X2_begin_X2 hown hK hP 6 (wC_6 _ _ _ _ _) rfl 10 (by decide) (hts (.fieldLink RX2 52 "CallGraphs$DrawnRun" "begun" "J") (List.mem_of_getElem? (i := 1) rfl)) (fun _ h9 => h9) (fC_6_10 _ _) dX2_begin_19 ?_
      refine lv_iload_n hx hb dX2_begin_22 rfl (lv_at hl 1 rfl) ?_
      obtain ⟨r_23, hg_23, hf⟩ := oc_e hf
      refine mS_l (D := D) (As := [.long (σ.2 6 10), .int v1]) (rest := [.ref (ad 6)]) ⟨hx, hb, hml, hown, hts⟩ hP hS (c_X0_with l (σ.2 6 10) v1 hg_23) (va_cwS 2 hts gX2_begin_X0_with rfl rfl rfl hd_X0_with ⟨by show 0 + 1 ≤ R.frames; omega, by show 8 + (3 + 11) + (0) ≤ R.locals; omega⟩) rfl hl.1 rfl (Nat.le_of_ble_eq_true rfl) dX2_begin_23 (fun H locs hP hS => ?_)
      refine va_put (D := D) (ci := 1) (v := .long r_23) (ty := .long) (C := RX2) (T := TX2) (N := 15) hx hb hts in_X2_begin_X2 tyX2 tyX2_ok nmX2 hown hK hP (hD _) hS 6 (wC_6 _ _ _ _ _) rfl 10 (by decide) (hts (.fieldLink RX2 52 "CallGraphs$DrawnRun" "begun" "J") (List.mem_of_getElem? (i := 1) rfl)) (fun _ h9 => h9) rfl (tyX2_ok 10 (by decide)) rfl rfl (Nat.le_of_ble_eq_true rfl) dX2_begin_26 (fun H locs hP _ hS => ?_)
      have hP := wC_p6_10 hP
      obtain ⟨s_26, es_26, hf⟩ := os_e hf
      rw [← es_26] at hP
      refine lv_aload_n hx hb dX2_begin_29 rfl (lv_at hl 0 rfl) ?_
      refine lv_aload_n hx hb dX2_begin_30 rfl (lv_at hl 0 rfl) ?_
      refine va_get (D := D) (ci := 1) (v := .ref (ad 1)) (C := RX2) (T := TX2) (N := 15) hx hb hts in_X2_begin_X2 hown hK hP 6 (wC_6 _ _ _ _ _) rfl 0 (by decide) (hts (.fieldLink RX2 25 "CallGraphs$DrawnRun" "types" "LCallGraphs$Types;") (List.mem_of_getElem? (i := 2) rfl)) (fun _ h9 => h9) (fC_6_0 _ _) dX2_begin_31 ?_
      refine lv_iload_n hx hb dX2_begin_34 rfl (lv_at hl 1 rfl) ?_
      obtain ⟨r_35, hg_35, hf⟩ := oc_e hf
      refine mV_ri (wd := wC ad cI cJ cZ) (σ := s_26) (As := [.int v1]) (rest := [.ref (ad 6)]) ⟨hx, hb, hml, hown, hts⟩ hK hP hD hS (c_X6_superOf l D ad cI cJ cZ s_26 v1 hg_35) (cwV 1 hts gX2_begin_X6_superOf rfl rfl rfl hd_X6_superOf ⟨by show 0 + 1 ≤ R.frames; omega, by show 8 + (2 + 11) + (0) ≤ R.locals; omega⟩) rfl (wC_1 _ _ _ _ _) rfl hl.1 rfl (Nat.le_of_ble_eq_true rfl) dX2_begin_35 (fun H locs hP hS => ?_)
      refine lv_iload_n hx hb dX2_begin_38 rfl (lv_at hl 2 rfl) ?_
      refine lv_iload_n hx hb dX2_begin_39 rfl (lv_at hl 3 rfl) ?_
      obtain ⟨r_40, hg_40, hf⟩ := oc_e hf
      refine mV_wv (wd := wC ad cI cJ cZ) (σ := s_26) (As := [.int r_35, .int v2, .int v3]) (rest := []) ⟨hx, hb, hml, hown, hts⟩ hK hP hD hS (hB r_35 v2 v3 s_26 hg_40) (cwV 3 hts gX2_begin_X2_begin rfl rfl rfl hd_X2_begin ⟨by show fB + 1 ≤ R.frames; omega, by show 8 + (7 + 11) + (nB) ≤ R.locals; omega⟩) rfl (wC_6 _ _ _ _ _) rfl hl.1 rfl (Nat.le_of_ble_eq_true rfl) dX2_begin_40 (fun H locs hP hS => ?_)
      refine lv_aload_n hx hb dX2_begin_43 rfl (lv_at hl 0 rfl) ?_
      refine va_get (D := D) (ci := 1) (v := .ref (ad 2)) (C := RX2) (T := TX2) (N := 15) hx hb hts in_X2_begin_X2 hown hK hP 6 (wC_6 _ _ _ _ _) rfl 1 (by decide) (hts (.fieldLink RX2 29 "CallGraphs$DrawnRun" "members" "LCallGraphs$Members;") (List.mem_of_getElem? (i := 3) rfl)) (fun _ h9 => h9) (fC_6_1 _ _) dX2_begin_44 ?_
      refine lv_iload_n hx hb dX2_begin_47 rfl (lv_at hl 1 rfl) ?_
      obtain ⟨r_48, hg_48, hf⟩ := oc_e hf
      refine mV_rl (wd := wC ad cI cJ cZ) (σ := r_40) (As := [.int v1]) (rest := []) ⟨hx, hb, hml, hown, hts⟩ hK hP hD hS (c_X4_facesBegunWith l D ad cI cJ cZ r_40 v1 hg_48) (cwV 1 hts gX2_begin_X4_facesBegunWith rfl rfl rfl hd_X4_facesBegunWith ⟨by show 1 + 1 ≤ R.frames; omega, by show 8 + (2 + 11) + (21) ≤ R.locals; omega⟩) rfl (wC_2 _ _ _ _ _) rfl hl.1 rfl (Nat.le_of_ble_eq_true rfl) dX2_begin_48 (fun H locs hP hS => ?_)
      refine lv_lstore (lv' := [(4, .long r_48), (0, .ref (ad 6)), (1, .int v1), (2, .int v2), (3, .int v3)]) hx hb dX2_begin_51 hl (by decide) rfl (fun ls hl => ?_)
      refine lv_iconst (v := 0) hx hb dX2_begin_53 (by decide) ?_
      refine lv_istore (lv' := [(6, .int 0), (4, .long r_48), (0, .ref (ad 6)), (1, .int v1), (2, .int v2), (3, .int v3)]) hx hb dX2_begin_54 hl (by decide) rfl (fun ls hl => ?_)
      exact w_X2_begin_56 hm hR hK hD E hE B hB 100000 v1 v2 v3 r_48 0 r_40 hf _ _ _ hP hS (lv_sub hl [2, 3, 4, 5, 1, 0] rfl)
    · rw [if_neg c_13] at hf
      exact w_X2_begin_16 hm hR hK hD E hE B hB σ hf _ _ _ hP hS (lv_sub hl [] rfl)

set_option maxHeartbeats 4000000 in
set_option maxRecDepth 100000 in
theorem co_X2_begin (l : Launch) (D : va_G) (ad : Nat → Nat) (cI cJ cZ : ClassId) {fE nE fB nB : Nat} (E : Int32 → Int32 → SS → Option SS) (hE : ∀ (v1 v2 : Int32) (σ : SS) {res : SS}, E v1 v2 σ = some res → Met l yX2_enter wsX2_enter ({ frames := fE, cells := 0, slots := 0, locals := nE } : Room) (PW D (tyw cI cJ cZ) (wC ad cI cJ cZ σ) [.ref (ad 6), .int v1, .int v2]) (va_Qv (fun (u : SS) => u = res) (fun u t => va_P D vwCl (wC ad cI cJ cZ u) t.heap) (aC ad)) 0 0 (aC ad)) (B : Int32 → Int32 → Int32 → SS → Option SS) (hB : ∀ (v1 v2 v3 : Int32) (σ : SS) {res : SS}, B v1 v2 v3 σ = some res → Met l yX2_begin wsX2_begin ({ frames := fB, cells := 0, slots := 0, locals := nB } : Room) (PW D (tyw cI cJ cZ) (wC ad cI cJ cZ σ) [.ref (ad 6), .int v1, .int v2, .int v3]) (va_Qv (fun (u : SS) => u = res) (fun u t => va_P D vwCl (wC ad cI cJ cZ u) t.heap) (aC ad)) 0 0 (aC ad)) {R0 R1 : Nat} (hR : (fE + 2 ≤ R0 ∧ nE + 46 ≤ R1) ∧ (fB + 1 ≤ R0 ∧ nB + 26 ≤ R1)) (σ : SS) (v1 : Int32) (v2 : Int32) (v3 : Int32) {res : SS} (hf : p_X2_begin_0 E B v1 v2 v3 σ = some res) : Met l yX2_begin wsX2_begin ({ frames := R0, cells := 0, slots := 0, locals := R1 } : Room) (PW D (tyw cI cJ cZ) (wC ad cI cJ cZ σ) [.ref (ad 6), .int v1, .int v2, .int v3]) (va_Qv (fun (u : SS) => u = res) (fun u t => va_P D vwCl (wC ad cI cJ cZ u) t.heap) (aC ad)) 0 0 (aC ad) := by
  refine Met.ofW (cc := cX2_begin) (maxL := 7) (ret := none) (by decide) rfl ?_
  intro p e s m args below meth c s₁ B9 hml hv
  obtain ⟨rfl, hP, hK, hD0⟩ := hv
  have hD : ∀ σ, va_D (aC ad) (wC ad cI cJ cZ σ) := fun σ => wd_D hD0 (wC_map _ _ _ _ _) (wC_map _ _ _ _ _)
  have hm : mx p s m _ meth c cX2_begin 7 none wsX2_begin RX2 := ⟨B9.exec, B9.bytes, B9.returns, hml, findClass_of_methodNamed B9.named, atoms_spec (ws := wsX2_begin) B9.pre, B9.notSynchronized⟩
  have hl := lv_entry ([.ref (ad 6), .int v1, .int v2, .int v3]) (n := 7) (Nat.le_of_ble_eq_true rfl)
  rw [lg_entry_eq]
  generalize (lg_sl ([.ref (ad 6), .int v1, .int v2, .int v3]) ++ List.replicate (7 - (lg_sl ([.ref (ad 6), .int v1, .int v2, .int v3])).length) Slot.unset).toArray = ls at hl ⊢
  exact w_X2_begin_0 hm hR hK hD E hE B hB v1 v2 v3 σ hf _ _ _ hP va_S.rf hl
def p_X2_begin (E : Int32 → Int32 → SS → Option SS) : Nat → Int32 → Int32 → Int32 → SS → Option SS
  | 0, _, _, _, _ => none
  | n + 1, v1, v2, v3, σ => p_X2_begin_0 E (p_X2_begin E n) v1 v2 v3 σ
theorem c_X2_begin (l : Launch) (D : va_G) (ad : Nat → Nat) (cI cJ cZ : ClassId) {fE nE : Nat} (E : Int32 → Int32 → SS → Option SS) (hE : ∀ (v1 v2 : Int32) (σ : SS) {res : SS}, E v1 v2 σ = some res → Met l yX2_enter wsX2_enter ({ frames := fE, cells := 0, slots := 0, locals := nE } : Room) (PW D (tyw cI cJ cZ) (wC ad cI cJ cZ σ) [.ref (ad 6), .int v1, .int v2]) (va_Qv (fun (u : SS) => u = res) (fun u t => va_P D vwCl (wC ad cI cJ cZ u) t.heap) (aC ad)) 0 0 (aC ad)) : ∀ (n : Nat) (v1 v2 v3 : Int32) (σ : SS) {res : SS}, p_X2_begin E n v1 v2 v3 σ = some res → Met l yX2_begin wsX2_begin ({ frames := fE + (2 + n), cells := 0, slots := 0, locals := nE + (46 + 26 * n) } : Room) (PW D (tyw cI cJ cZ) (wC ad cI cJ cZ σ) [.ref (ad 6), .int v1, .int v2, .int v3]) (va_Qv (fun (u : SS) => u = res) (fun u t => va_P D vwCl (wC ad cI cJ cZ u) t.heap) (aC ad)) 0 0 (aC ad) := by
  intro n
  induction n with
  | zero =>
    intro _ _ _ _ _ hf
    cases hf
  | succ n ih =>
    intro v1 v2 v3 σ res hf
    exact co_X2_begin l D ad cI cJ cZ E hE (p_X2_begin E n) (fun v1 v2 v3 σ res h => ih v1 v2 v3 σ h) ⟨⟨by omega, by omega⟩, ⟨by omega, by omega⟩⟩ σ v1 v2 v3 hf
/-! CallGraphs$DrawnRun.callPooled(II)V -/
theorem in_X2_callPooled_X2 : ∀ w ∈ u_ws RX2 TX2 15, w ∈ wsX2_callPooled := fun w h => List.mem_cons_of_mem _ (List.mem_append_left _ (List.mem_append_left _ (List.mem_append_left _ (List.mem_append_left _ (List.mem_append_right _ h)))))
def p_X2_callPooled_45 (E : Int32 → Int32 → SS → Option SS) (k15 : Int32 → Int32 → Int32 → Int32 → Int32 → SS → Option (SS)) (v1 : Int32) (v2 : Int32) (v3 : Int32) (v4 : Int32) (v5 : Int32) (σ : SS) : Option (SS) := k15 v1 v2 v3 v4 (v5 + 1) σ
set_option maxHeartbeats 4000000 in
set_option maxRecDepth 100000 in
theorem w_X2_callPooled_45 {p : Program} {l : Launch} {e : Env} {R : Room} {s : State} {m : MethodId} {args : Array Value} {below : List Frame} {meth : Method} {c : Code} {D : va_G} {ad : Nat → Nat} {cI cJ cZ : ClassId} {fE nE : Nat} {res : SS} (hm : mx p s m args meth c cX2_callPooled 6 none wsX2_callPooled RX2) (hR : fE + 3 ≤ R.frames ∧ nE + 68 ≤ R.locals) (hK : va_K D vwCl (tyw cI cJ cZ) s) (hD : ∀ σ, va_D (aC ad) (wC ad cI cJ cZ σ)) (E : Int32 → Int32 → SS → Option SS) (hE : ∀ (v1 v2 : Int32) (σ : SS) {res : SS}, E v1 v2 σ = some res → Met l yX2_enter wsX2_enter ({ frames := fE, cells := 0, slots := 0, locals := nE } : Room) (PW D (tyw cI cJ cZ) (wC ad cI cJ cZ σ) [.ref (ad 6), .int v1, .int v2]) (va_Qv (fun (u : SS) => u = res) (fun u t => va_P D vwCl (wC ad cI cJ cZ u) t.heap) (aC ad)) 0 0 (aC ad)) (k15 : Int32 → Int32 → Int32 → Int32 → Int32 → SS → Option (SS)) (hk15 : ∀ (v1 : Int32) (v2 : Int32) (v3 : Int32) (v4 : Int32) (v5 : Int32) (σ : SS), k15 v1 v2 v3 v4 v5 σ = some res → ∀ (H : Heap) (locs : List Loc) (ls : Array Slot), va_P D vwCl (wC ad cI cJ cZ σ) H → va_S (aC ad) s.heap H locs → lv_has ls 6 [(0, .ref (ad 6)), (1, .int v1), (2, .int v2), (3, .int v3), (4, .int v4), (5, .int v5)] → W p l e R s m args below meth c H locs 0 0 (MQ below (va_Qv (fun (u : SS) => u = res) (fun u t => va_P D vwCl (wC ad cI cJ cZ u) t.heap) (aC ad)) args s 0 0 (aC ad)) (F0 m 15 ls [])) (v1 : Int32) (v2 : Int32) (v3 : Int32) (v4 : Int32) (v5 : Int32) (σ : SS) (hf : p_X2_callPooled_45 E k15 v1 v2 v3 v4 v5 σ = some res) (H : Heap) (locs : List Loc) (ls : Array Slot) (hP : va_P D vwCl (wC ad cI cJ cZ σ) H) (hS : va_S (aC ad) s.heap H locs) (hl : lv_has ls 6 [(0, .ref (ad 6)), (1, .int v1), (2, .int v2), (3, .int v3), (4, .int v4), (5, .int v5)]) : W p l e R s m args below meth c H locs 0 0 (MQ below (va_Qv (fun (u : SS) => u = res) (fun u t => va_P D vwCl (wC ad cI cJ cZ u) t.heap) (aC ad)) args s 0 0 (aC ad)) (F0 m 45 ls []) := by
  obtain ⟨hx, hb, hr, hml, hown, hts, hlk⟩ := id hm
  obtain ⟨hR1, hR2⟩ := id hR
  unfold p_X2_callPooled_45 at hf
  refine lv_iinc (v := (v5 + 1)) (lv' := [(5, .int (v5 + 1)), (0, .ref (ad 6)), (1, .int v1), (2, .int v2), (3, .int v3), (4, .int v4)]) hx hb dX2_callPooled_45 hl (k := 5) rfl rfl (by decide) rfl (fun ls hl => ?_)
  refine lv_goto (tgt := 15) hx hb dX2_callPooled_48 (by decide) ?_
  exact hk15 v1 v2 v3 v4 (v5 + 1) σ hf _ _ _ hP hS (lv_sub hl [1, 2, 3, 4, 5, 0] rfl)
def p_X2_callPooled_100 (E : Int32 → Int32 → SS → Option SS) (σ : SS) : Option (SS) := some σ
set_option maxHeartbeats 4000000 in
set_option maxRecDepth 100000 in
theorem w_X2_callPooled_100 {p : Program} {l : Launch} {e : Env} {R : Room} {s : State} {m : MethodId} {args : Array Value} {below : List Frame} {meth : Method} {c : Code} {D : va_G} {ad : Nat → Nat} {cI cJ cZ : ClassId} {fE nE : Nat} {res : SS} (hm : mx p s m args meth c cX2_callPooled 6 none wsX2_callPooled RX2) (hR : fE + 3 ≤ R.frames ∧ nE + 68 ≤ R.locals) (hK : va_K D vwCl (tyw cI cJ cZ) s) (hD : ∀ σ, va_D (aC ad) (wC ad cI cJ cZ σ)) (E : Int32 → Int32 → SS → Option SS) (hE : ∀ (v1 v2 : Int32) (σ : SS) {res : SS}, E v1 v2 σ = some res → Met l yX2_enter wsX2_enter ({ frames := fE, cells := 0, slots := 0, locals := nE } : Room) (PW D (tyw cI cJ cZ) (wC ad cI cJ cZ σ) [.ref (ad 6), .int v1, .int v2]) (va_Qv (fun (u : SS) => u = res) (fun u t => va_P D vwCl (wC ad cI cJ cZ u) t.heap) (aC ad)) 0 0 (aC ad)) (σ : SS) (hf : p_X2_callPooled_100 E σ = some res) (H : Heap) (locs : List Loc) (ls : Array Slot) (hP : va_P D vwCl (wC ad cI cJ cZ σ) H) (hS : va_S (aC ad) s.heap H locs) (hl : lv_has ls 6 []) : W p l e R s m args below meth c H locs 0 0 (MQ below (va_Qv (fun (u : SS) => u = res) (fun u t => va_P D vwCl (wC ad cI cJ cZ u) t.heap) (aC ad)) args s 0 0 (aC ad)) (F0 m 100 ls []) := by
  obtain ⟨hx, hb, hr, hml, hown, hts, hlk⟩ := id hm
  obtain ⟨hR1, hR2⟩ := id hR
  unfold p_X2_callPooled_100 at hf
  exact rt_v (wd := wC ad cI cJ cZ) hx hb hr hlk (Option.some.inj hf) hP hS dX2_callPooled_100
def p_X2_callPooled_15 (E : Int32 → Int32 → SS → Option SS) : Nat → Int32 → Int32 → Int32 → Int32 → Int32 → SS → Option (SS)
  | 0, _, _, _, _, _, _ => none
  | n + 1, v1, v2, v3, v4, v5, σ => let k15 := p_X2_callPooled_15 E n; if (σ.1 6 11) ≤ v5 then if v4 = 0 then some σ else oc (p_X2_draw_0 v4 σ) (fun r_62 => oc (p_X2_pooledUnder_0 r_62.2 v3 r_62.1) (fun r_65 => if r_65 = (-1) then p_X2_callPooled_100 E r_62.2 else oc (p_X5_b_0 r_62.2 v1) (fun r_90 => oc (p_X1_choose_0 r_62.2 r_65 v3 r_90) (fun r_93 => oc (p_X2_enterBy_0 E v1 r_93 v2 r_62.2) (fun r_97 => p_X2_callPooled_100 E r_97))))) else oi v5 20 (oc (p_X6_isUnder_0 σ (σ.1 29 v5.toNatClampNeg) v3) (fun r_36 => if r_36 = 0 then p_X2_callPooled_45 E k15 v1 v2 v3 v4 v5 σ else p_X2_callPooled_45 E k15 v1 v2 v3 (v4 + 1) v5 σ))
set_option maxHeartbeats 4000000 in
set_option maxRecDepth 100000 in
theorem w_X2_callPooled_15 {p : Program} {l : Launch} {e : Env} {R : Room} {s : State} {m : MethodId} {args : Array Value} {below : List Frame} {meth : Method} {c : Code} {D : va_G} {ad : Nat → Nat} {cI cJ cZ : ClassId} {fE nE : Nat} {res : SS} (hm : mx p s m args meth c cX2_callPooled 6 none wsX2_callPooled RX2) (hR : fE + 3 ≤ R.frames ∧ nE + 68 ≤ R.locals) (hK : va_K D vwCl (tyw cI cJ cZ) s) (hD : ∀ σ, va_D (aC ad) (wC ad cI cJ cZ σ)) (E : Int32 → Int32 → SS → Option SS) (hE : ∀ (v1 v2 : Int32) (σ : SS) {res : SS}, E v1 v2 σ = some res → Met l yX2_enter wsX2_enter ({ frames := fE, cells := 0, slots := 0, locals := nE } : Room) (PW D (tyw cI cJ cZ) (wC ad cI cJ cZ σ) [.ref (ad 6), .int v1, .int v2]) (va_Qv (fun (u : SS) => u = res) (fun u t => va_P D vwCl (wC ad cI cJ cZ u) t.heap) (aC ad)) 0 0 (aC ad)) : ∀ (n : Nat) (v1 : Int32) (v2 : Int32) (v3 : Int32) (v4 : Int32) (v5 : Int32) (σ : SS), p_X2_callPooled_15 E n v1 v2 v3 v4 v5 σ = some res → ∀ (H : Heap) (locs : List Loc) (ls : Array Slot), va_P D vwCl (wC ad cI cJ cZ σ) H → va_S (aC ad) s.heap H locs → lv_has ls 6 [(0, .ref (ad 6)), (1, .int v1), (2, .int v2), (3, .int v3), (4, .int v4), (5, .int v5)] → W p l e R s m args below meth c H locs 0 0 (MQ below (va_Qv (fun (u : SS) => u = res) (fun u t => va_P D vwCl (wC ad cI cJ cZ u) t.heap) (aC ad)) args s 0 0 (aC ad)) (F0 m 15 ls []) := by
  obtain ⟨hx, hb, hr, hml, hown, hts, hlk⟩ := id hm
  obtain ⟨hR1, hR2⟩ := id hR
  intro n
  induction n with
  | zero =>
    intro _ _ _ _ _ _ hf
    cases hf
  | succ n hk15 =>
    intro v1 v2 v3 v4 v5 σ hf H locs ls hP hS hl
    rw [p_X2_callPooled_15] at hf
    try dsimp only at hf
    refine lv_iload hx hb dX2_callPooled_15 (lv_at hl 5 rfl) ?_
    refine lv_aload_n hx hb dX2_callPooled_17 rfl (lv_at hl 0 rfl) ?_
    refine va_get (D := D) (ci := 1) (v := .int (σ.1 6 11)) (C := RX2) (T := TX2) (N := 15) hx hb hts in_X2_callPooled_X2 hown hK hP 6 (wC_6 _ _ _ _ _) rfl 11 (by decide) (hts (.fieldLink RX2 49 "CallGraphs$DrawnRun" "poolCount" "I") (List.mem_of_getElem? (i := 2) rfl)) (fun _ h9 => h9) (fC_6_11 _ _) dX2_callPooled_18 ?_
    refine lv_icmp_ge (tgt := 51) hx hb dX2_callPooled_21 (by decide) (fun c_21 => ?_) (fun c_21 => ?_)
    · rw [if_pos c_21] at hf
      refine lv_iload hx hb dX2_callPooled_51 (lv_at hl 4 rfl) ?_
      refine lv_if_ne (tgt := 57) hx hb dX2_callPooled_53 (by decide) (fun c_53 => ?_) (fun c_53 => ?_)
      · rw [if_neg c_53] at hf
        refine lv_aload_n hx hb dX2_callPooled_57 rfl (lv_at hl 0 rfl) ?_
        refine lv_iload_n hx hb dX2_callPooled_58 rfl (lv_at hl 3 rfl) ?_
        refine lv_aload_n hx hb dX2_callPooled_59 rfl (lv_at hl 0 rfl) ?_
        refine lv_iload hx hb dX2_callPooled_60 (lv_at hl 4 rfl) ?_
        obtain ⟨r_62, hg_62, hf⟩ := oc_e hf
        refine mV_wi (wd := wC ad cI cJ cZ) (σ := σ) (As := [.int v4]) (rest := [.int v3, .ref (ad 6)]) ⟨hx, hb, hml, hown, hts⟩ hK hP hD hS (c_X2_draw l D ad cI cJ cZ σ v4 hg_62) (cwV 1 hts gX2_callPooled_X2_draw rfl rfl rfl hd_X2_draw ⟨by show 0 + 1 ≤ R.frames; omega, by show 8 + (2 + 11) + (0) ≤ R.locals; omega⟩) rfl (wC_6 _ _ _ _ _) rfl hl.1 rfl (Nat.le_of_ble_eq_true rfl) dX2_callPooled_62 (fun H locs hP hS => ?_)
        obtain ⟨r_65, hg_65, hf⟩ := oc_e hf
        refine mV_ri (wd := wC ad cI cJ cZ) (σ := r_62.2) (As := [.int v3, .int r_62.1]) (rest := []) ⟨hx, hb, hml, hown, hts⟩ hK hP hD hS (c_X2_pooledUnder l D ad cI cJ cZ r_62.2 v3 r_62.1 hg_65) (cwV 2 hts gX2_callPooled_X2_pooledUnder rfl rfl rfl hd_X2_pooledUnder ⟨by show 2 + 1 ≤ R.frames; omega, by show 8 + (5 + 11) + (44) ≤ R.locals; omega⟩) rfl (wC_6 _ _ _ _ _) rfl hl.1 rfl (Nat.le_of_ble_eq_true rfl) dX2_callPooled_65 (fun H locs hP hS => ?_)
        refine lv_istore (lv' := [(5, .int r_65), (0, .ref (ad 6)), (1, .int v1), (2, .int v2), (3, .int v3), (4, .int v4)]) hx hb dX2_callPooled_68 hl (by decide) rfl (fun ls hl => ?_)
        refine lv_iload hx hb dX2_callPooled_70 (lv_at hl 0 rfl) ?_
        refine lv_iconst (v := (-1)) hx hb dX2_callPooled_72 (by decide) ?_
        refine lv_icmp_eq (tgt := 100) hx hb dX2_callPooled_73 (by decide) (fun c_73 => ?_) (fun c_73 => ?_)
        · rw [if_pos c_73] at hf
          exact w_X2_callPooled_100 hm hR hK hD E hE r_62.2 hf _ _ _ hP hS (lv_sub hl [] rfl)
        · rw [if_neg c_73] at hf
          refine lv_aload_n hx hb dX2_callPooled_76 rfl (lv_at hl 1 rfl) ?_
          refine lv_iload_n hx hb dX2_callPooled_77 rfl (lv_at hl 2 rfl) ?_
          refine lv_aload_n hx hb dX2_callPooled_78 rfl (lv_at hl 1 rfl) ?_
          refine va_get (D := D) (ci := 1) (v := .ref (ad 3)) (C := RX2) (T := TX2) (N := 15) hx hb hts in_X2_callPooled_X2 hown hK hP 6 (wC_6 _ _ _ _ _) rfl 2 (by decide) (hts (.fieldLink RX2 33 "CallGraphs$DrawnRun" "choices" "LCallGraphs$Choices;") (List.mem_of_getElem? (i := 5) rfl)) (fun _ h9 => h9) (fC_6_2 _ _) dX2_callPooled_79 ?_
          refine lv_iload hx hb dX2_callPooled_82 (lv_at hl 0 rfl) ?_
          refine lv_iload_n hx hb dX2_callPooled_84 rfl (lv_at hl 4 rfl) ?_
          refine lv_aload_n hx hb dX2_callPooled_85 rfl (lv_at hl 1 rfl) ?_
          refine va_get (D := D) (ci := 1) (v := .ref (ad 4)) (C := RX2) (T := TX2) (N := 15) hx hb hts in_X2_callPooled_X2 hown hK hP 6 (wC_6 _ _ _ _ _) rfl 3 (by decide) (hts (.fieldLink RX2 37 "CallGraphs$DrawnRun" "ops" "LCallGraphs$Ops;") (List.mem_of_getElem? (i := 1) rfl)) (fun _ h9 => h9) (fC_6_3 _ _) dX2_callPooled_86 ?_
          refine lv_iload_n hx hb dX2_callPooled_89 rfl (lv_at hl 2 rfl) ?_
          obtain ⟨r_90, hg_90, hf⟩ := oc_e hf
          refine mV_ri (wd := wC ad cI cJ cZ) (σ := r_62.2) (As := [.int v1]) (rest := [.int v3, .int r_65, .ref (ad 3), .int v1, .ref (ad 6)]) ⟨hx, hb, hml, hown, hts⟩ hK hP hD hS (c_X5_b l D ad cI cJ cZ r_62.2 v1 hg_90) (cwV 1 hts gX2_callPooled_X5_b rfl rfl rfl hd_X5_b ⟨by show 0 + 1 ≤ R.frames; omega, by show 8 + (2 + 11) + (0) ≤ R.locals; omega⟩) rfl (wC_4 _ _ _ _ _) rfl hl.1 rfl (Nat.le_of_ble_eq_true rfl) dX2_callPooled_90 (fun H locs hP hS => ?_)
          obtain ⟨r_93, hg_93, hf⟩ := oc_e hf
          refine mV_ri (wd := wC ad cI cJ cZ) (σ := r_62.2) (As := [.int r_65, .int v3, .int r_90]) (rest := [.int v1, .ref (ad 6)]) ⟨hx, hb, hml, hown, hts⟩ hK hP hD hS (c_X1_choose l D ad cI cJ cZ r_62.2 r_65 v3 r_90 hg_93) (cwV 3 hts gX2_callPooled_X1_choose rfl rfl rfl hd_X1_choose ⟨by show 1 + 1 ≤ R.frames; omega, by show 8 + (6 + 11) + (21) ≤ R.locals; omega⟩) rfl (wC_3 _ _ _ _ _) rfl hl.1 rfl (Nat.le_of_ble_eq_true rfl) dX2_callPooled_93 (fun H locs hP hS => ?_)
          refine lv_iload_n hx hb dX2_callPooled_96 rfl (lv_at hl 3 rfl) ?_
          obtain ⟨r_97, hg_97, hf⟩ := oc_e hf
          refine mV_wv (wd := wC ad cI cJ cZ) (σ := r_62.2) (As := [.int v1, .int r_93, .int v2]) (rest := []) ⟨hx, hb, hml, hown, hts⟩ hK hP hD hS (c_X2_enterBy l D ad cI cJ cZ E hE r_62.2 v1 r_93 v2 hg_97) (cwV 3 hts gX2_callPooled_X2_enterBy rfl rfl rfl hd_X2_enterBy ⟨by show fE + 1 + 1 ≤ R.frames; omega, by show 8 + (4 + 11) + (nE + 23) ≤ R.locals; omega⟩) rfl (wC_6 _ _ _ _ _) rfl hl.1 rfl (Nat.le_of_ble_eq_true rfl) dX2_callPooled_97 (fun H locs hP hS => ?_)
          exact w_X2_callPooled_100 hm hR hK hD E hE r_97 hf _ _ _ hP hS (lv_sub hl [] rfl)
      · rw [if_pos c_53] at hf
        exact rt_v (wd := wC ad cI cJ cZ) hx hb hr hlk (Option.some.inj hf) hP hS dX2_callPooled_56
    · rw [if_neg c_21] at hf
      refine lv_aload_n hx hb dX2_callPooled_24 rfl (lv_at hl 0 rfl) ?_
      refine va_get (D := D) (ci := 1) (v := .ref (ad 1)) (C := RX2) (T := TX2) (N := 15) hx hb hts in_X2_callPooled_X2 hown hK hP 6 (wC_6 _ _ _ _ _) rfl 0 (by decide) (hts (.fieldLink RX2 25 "CallGraphs$DrawnRun" "types" "LCallGraphs$Types;") (List.mem_of_getElem? (i := 3) rfl)) (fun _ h9 => h9) (fC_6_0 _ _) dX2_callPooled_25 ?_
      refine lv_aload_n hx hb dX2_callPooled_28 rfl (lv_at hl 0 rfl) ?_
      refine va_get (D := D) (ci := 1) (v := .ref (ad 29)) (C := RX2) (T := TX2) (N := 15) hx hb hts in_X2_callPooled_X2 hown hK hP 6 (wC_6 _ _ _ _ _) rfl 4 (by decide) (hts (.fieldLink RX2 9 "CallGraphs$DrawnRun" "pool" "[I") (List.mem_of_getElem? (i := 4) rfl)) (fun _ h9 => h9) (fC_6_4 _ _) dX2_callPooled_29 ?_
      refine lv_iload hx hb dX2_callPooled_32 (lv_at hl 5 rfl) ?_
      obtain ⟨h_34, hf⟩ := oi_e hf
      refine va_iald hx hb hK hP 29 0 (wC_29 _ _ _ _ _) rfl h_34 dX2_callPooled_34 ?_
      refine lv_iload_n hx hb dX2_callPooled_35 rfl (lv_at hl 3 rfl) ?_
      obtain ⟨r_36, hg_36, hf⟩ := oc_e hf
      refine mV_ri (wd := wC ad cI cJ cZ) (σ := σ) (As := [.int (σ.1 29 v5.toNatClampNeg), .int v3]) (rest := []) ⟨hx, hb, hml, hown, hts⟩ hK hP hD hS (c_X6_isUnder l D ad cI cJ cZ σ (σ.1 29 v5.toNatClampNeg) v3 hg_36) (cwV 2 hts gX2_callPooled_X6_isUnder rfl rfl rfl hd_X6_isUnder ⟨by show 1 + 1 ≤ R.frames; omega, by show 8 + (3 + 11) + (22) ≤ R.locals; omega⟩) rfl (wC_1 _ _ _ _ _) rfl hl.1 rfl (Nat.le_of_ble_eq_true rfl) dX2_callPooled_36 (fun H locs hP hS => ?_)
      refine lv_if_eq (tgt := 45) hx hb dX2_callPooled_39 (by decide) (fun c_39 => ?_) (fun c_39 => ?_)
      · rw [if_pos c_39] at hf
        exact w_X2_callPooled_45 hm hR hK hD E hE (p_X2_callPooled_15 E n) hk15 v1 v2 v3 v4 v5 σ hf _ _ _ hP hS (lv_sub hl [0, 1, 2, 3, 4, 5] rfl)
      · rw [if_neg c_39] at hf
        refine lv_iinc (v := (v4 + 1)) (lv' := [(4, .int (v4 + 1)), (0, .ref (ad 6)), (1, .int v1), (2, .int v2), (3, .int v3), (5, .int v5)]) hx hb dX2_callPooled_42 hl (k := 4) rfl rfl (by decide) rfl (fun ls hl => ?_)
        exact w_X2_callPooled_45 hm hR hK hD E hE (p_X2_callPooled_15 E n) hk15 v1 v2 v3 (v4 + 1) v5 σ hf _ _ _ hP hS (lv_sub hl [1, 2, 3, 4, 0, 5] rfl)
def p_X2_callPooled_0 (E : Int32 → Int32 → SS → Option SS) (v1 : Int32) (v2 : Int32) (σ : SS) : Option (SS) := oc (p_X5_a_0 σ v1) (fun r_5 => p_X2_callPooled_15 E 100000 v1 v2 r_5 0 0 σ)
set_option maxHeartbeats 4000000 in
set_option maxRecDepth 100000 in
theorem w_X2_callPooled_0 {p : Program} {l : Launch} {e : Env} {R : Room} {s : State} {m : MethodId} {args : Array Value} {below : List Frame} {meth : Method} {c : Code} {D : va_G} {ad : Nat → Nat} {cI cJ cZ : ClassId} {fE nE : Nat} {res : SS} (hm : mx p s m args meth c cX2_callPooled 6 none wsX2_callPooled RX2) (hR : fE + 3 ≤ R.frames ∧ nE + 68 ≤ R.locals) (hK : va_K D vwCl (tyw cI cJ cZ) s) (hD : ∀ σ, va_D (aC ad) (wC ad cI cJ cZ σ)) (E : Int32 → Int32 → SS → Option SS) (hE : ∀ (v1 v2 : Int32) (σ : SS) {res : SS}, E v1 v2 σ = some res → Met l yX2_enter wsX2_enter ({ frames := fE, cells := 0, slots := 0, locals := nE } : Room) (PW D (tyw cI cJ cZ) (wC ad cI cJ cZ σ) [.ref (ad 6), .int v1, .int v2]) (va_Qv (fun (u : SS) => u = res) (fun u t => va_P D vwCl (wC ad cI cJ cZ u) t.heap) (aC ad)) 0 0 (aC ad)) (v1 : Int32) (v2 : Int32) (σ : SS) (hf : p_X2_callPooled_0 E v1 v2 σ = some res) (H : Heap) (locs : List Loc) (ls : Array Slot) (hP : va_P D vwCl (wC ad cI cJ cZ σ) H) (hS : va_S (aC ad) s.heap H locs) (hl : lv_has ls 6 [(0, .ref (ad 6)), (1, .int v1), (2, .int v2)]) : W p l e R s m args below meth c H locs 0 0 (MQ below (va_Qv (fun (u : SS) => u = res) (fun u t => va_P D vwCl (wC ad cI cJ cZ u) t.heap) (aC ad)) args s 0 0 (aC ad)) (F0 m 0 ls []) := by
  obtain ⟨hx, hb, hr, hml, hown, hts, hlk⟩ := id hm
  obtain ⟨hR1, hR2⟩ := id hR
  unfold p_X2_callPooled_0 at hf
  refine lv_aload_n hx hb dX2_callPooled_0 rfl (lv_at hl 0 rfl) ?_
  refine va_get (D := D) (ci := 1) (v := .ref (ad 4)) (C := RX2) (T := TX2) (N := 15) hx hb hts in_X2_callPooled_X2 hown hK hP 6 (wC_6 _ _ _ _ _) rfl 3 (by decide) (hts (.fieldLink RX2 37 "CallGraphs$DrawnRun" "ops" "LCallGraphs$Ops;") (List.mem_of_getElem? (i := 1) rfl)) (fun _ h9 => h9) (fC_6_3 _ _) dX2_callPooled_1 ?_
  refine lv_iload_n hx hb dX2_callPooled_4 rfl (lv_at hl 1 rfl) ?_
  obtain ⟨r_5, hg_5, hf⟩ := oc_e hf
  refine mV_ri (wd := wC ad cI cJ cZ) (σ := σ) (As := [.int v1]) (rest := []) ⟨hx, hb, hml, hown, hts⟩ hK hP hD hS (c_X5_a l D ad cI cJ cZ σ v1 hg_5) (cwV 1 hts gX2_callPooled_X5_a rfl rfl rfl hd_X5_a ⟨by show 0 + 1 ≤ R.frames; omega, by show 8 + (2 + 11) + (0) ≤ R.locals; omega⟩) rfl (wC_4 _ _ _ _ _) rfl hl.1 rfl (Nat.le_of_ble_eq_true rfl) dX2_callPooled_5 (fun H locs hP hS => ?_)
  refine lv_istore_n (lv' := [(3, .int r_5), (0, .ref (ad 6)), (1, .int v1), (2, .int v2)]) hx hb dX2_callPooled_8 rfl hl (by decide) rfl (fun ls hl => ?_)
  refine lv_iconst (v := 0) hx hb dX2_callPooled_9 (by decide) ?_
  refine lv_istore (lv' := [(4, .int 0), (3, .int r_5), (0, .ref (ad 6)), (1, .int v1), (2, .int v2)]) hx hb dX2_callPooled_10 hl (by decide) rfl (fun ls hl => ?_)
  refine lv_iconst (v := 0) hx hb dX2_callPooled_12 (by decide) ?_
  refine lv_istore (lv' := [(5, .int 0), (4, .int 0), (3, .int r_5), (0, .ref (ad 6)), (1, .int v1), (2, .int v2)]) hx hb dX2_callPooled_13 hl (by decide) rfl (fun ls hl => ?_)
  exact w_X2_callPooled_15 hm hR hK hD E hE 100000 v1 v2 r_5 0 0 σ hf _ _ _ hP hS (lv_sub hl [3, 4, 5, 2, 1, 0] rfl)
theorem hd_X2_callPooled : yX2_callPooled.cls = RX2 ∧ yX2_callPooled.cls ≠ "java/lang/invoke/MethodHandle" ∧ yX2_callPooled.cls ≠ "java/lang/invoke/VarHandle" ∧ (parseMethodDescriptor yX2_callPooled.desc).map (fun d => d.parameters.length) = some 2 := by decide +kernel
set_option maxHeartbeats 4000000 in
set_option maxRecDepth 100000 in
theorem c_X2_callPooled (l : Launch) (D : va_G) (ad : Nat → Nat) (cI cJ cZ : ClassId) {fE nE : Nat} (E : Int32 → Int32 → SS → Option SS) (hE : ∀ (v1 v2 : Int32) (σ : SS) {res : SS}, E v1 v2 σ = some res → Met l yX2_enter wsX2_enter ({ frames := fE, cells := 0, slots := 0, locals := nE } : Room) (PW D (tyw cI cJ cZ) (wC ad cI cJ cZ σ) [.ref (ad 6), .int v1, .int v2]) (va_Qv (fun (u : SS) => u = res) (fun u t => va_P D vwCl (wC ad cI cJ cZ u) t.heap) (aC ad)) 0 0 (aC ad)) (σ : SS) (v1 : Int32) (v2 : Int32) {res : SS} (hf : p_X2_callPooled_0 E v1 v2 σ = some res) : Met l yX2_callPooled wsX2_callPooled ({ frames := fE + 3, cells := 0, slots := 0, locals := nE + 68 } : Room) (PW D (tyw cI cJ cZ) (wC ad cI cJ cZ σ) [.ref (ad 6), .int v1, .int v2]) (va_Qv (fun (u : SS) => u = res) (fun u t => va_P D vwCl (wC ad cI cJ cZ u) t.heap) (aC ad)) 0 0 (aC ad) := by
  refine Met.ofW (cc := cX2_callPooled) (maxL := 6) (ret := none) (by decide) rfl ?_
  intro p e s m args below meth c s₁ B9 hml hv
  obtain ⟨rfl, hP, hK, hD0⟩ := hv
  have hD : ∀ σ, va_D (aC ad) (wC ad cI cJ cZ σ) := fun σ => wd_D hD0 (wC_map _ _ _ _ _) (wC_map _ _ _ _ _)
  have hm : mx p s m _ meth c cX2_callPooled 6 none wsX2_callPooled RX2 := ⟨B9.exec, B9.bytes, B9.returns, hml, findClass_of_methodNamed B9.named, atoms_spec (ws := wsX2_callPooled) B9.pre, B9.notSynchronized⟩
  have hl := lv_entry ([.ref (ad 6), .int v1, .int v2]) (n := 6) (Nat.le_of_ble_eq_true rfl)
  rw [lg_entry_eq]
  generalize (lg_sl ([.ref (ad 6), .int v1, .int v2]) ++ List.replicate (6 - (lg_sl ([.ref (ad 6), .int v1, .int v2])).length) Slot.unset).toArray = ls at hl ⊢
  exact w_X2_callPooled_0 hm ⟨Nat.le_refl _, Nat.le_refl _⟩ hK hD E hE v1 v2 σ hf _ _ _ hP va_S.rf hl
/-! CallGraphs$DrawnRun.callStatic(III)V -/
theorem in_X2_callStatic_X2 : ∀ w ∈ u_ws RX2 TX2 15, w ∈ wsX2_callStatic := fun w h => List.mem_cons_of_mem _ (List.mem_append_left _ (List.mem_append_left _ (List.mem_append_left _ (List.mem_append_left _ (List.mem_append_right _ h)))))
def p_X2_callStatic_0 (E : Int32 → Int32 → SS → Option SS) (v1 : Int32) (v2 : Int32) (v3 : Int32) (σ : SS) : Option (SS) := if 0 ≤ v2 then oc (p_X4_typeOf_0 σ v2) (fun r_11 => oc (p_X2_begin E 40 r_11 v1 v3 σ) (fun r_16 => oc (p_X2_enterBy_0 E v1 v2 v3 r_16) (fun r_23 => some r_23))) else some σ
set_option maxHeartbeats 4000000 in
set_option maxRecDepth 100000 in
theorem w_X2_callStatic_0 {p : Program} {l : Launch} {e : Env} {R : Room} {s : State} {m : MethodId} {args : Array Value} {below : List Frame} {meth : Method} {c : Code} {D : va_G} {ad : Nat → Nat} {cI cJ cZ : ClassId} {fE nE : Nat} {res : SS} (hm : mx p s m args meth c cX2_callStatic 4 none wsX2_callStatic RX2) (hR : fE + 43 ≤ R.frames ∧ nE + 1112 ≤ R.locals) (hK : va_K D vwCl (tyw cI cJ cZ) s) (hD : ∀ σ, va_D (aC ad) (wC ad cI cJ cZ σ)) (E : Int32 → Int32 → SS → Option SS) (hE : ∀ (v1 v2 : Int32) (σ : SS) {res : SS}, E v1 v2 σ = some res → Met l yX2_enter wsX2_enter ({ frames := fE, cells := 0, slots := 0, locals := nE } : Room) (PW D (tyw cI cJ cZ) (wC ad cI cJ cZ σ) [.ref (ad 6), .int v1, .int v2]) (va_Qv (fun (u : SS) => u = res) (fun u t => va_P D vwCl (wC ad cI cJ cZ u) t.heap) (aC ad)) 0 0 (aC ad)) (v1 : Int32) (v2 : Int32) (v3 : Int32) (σ : SS) (hf : p_X2_callStatic_0 E v1 v2 v3 σ = some res) (H : Heap) (locs : List Loc) (ls : Array Slot) (hP : va_P D vwCl (wC ad cI cJ cZ σ) H) (hS : va_S (aC ad) s.heap H locs) (hl : lv_has ls 4 [(0, .ref (ad 6)), (1, .int v1), (2, .int v2), (3, .int v3)]) : W p l e R s m args below meth c H locs 0 0 (MQ below (va_Qv (fun (u : SS) => u = res) (fun u t => va_P D vwCl (wC ad cI cJ cZ u) t.heap) (aC ad)) args s 0 0 (aC ad)) (F0 m 0 ls []) := by
  obtain ⟨hx, hb, hr, hml, hown, hts, hlk⟩ := id hm
  obtain ⟨hR1, hR2⟩ := id hR
  unfold p_X2_callStatic_0 at hf
  refine lv_iload_n hx hb dX2_callStatic_0 rfl (lv_at hl 2 rfl) ?_
  refine lv_if_ge (tgt := 5) hx hb dX2_callStatic_1 (by decide) (fun c_1 => ?_) (fun c_1 => ?_)
  · rw [if_pos c_1] at hf
    refine lv_aload_n hx hb dX2_callStatic_5 rfl (lv_at hl 0 rfl) ?_
    refine lv_aload_n hx hb dX2_callStatic_6 rfl (lv_at hl 0 rfl) ?_
    refine va_get (D := D) (ci := 1) (v := .ref (ad 2)) (C := RX2) (T := TX2) (N := 15) hx hb hts in_X2_callStatic_X2 hown hK hP 6 (wC_6 _ _ _ _ _) rfl 1 (by decide) (hts (.fieldLink RX2 29 "CallGraphs$DrawnRun" "members" "LCallGraphs$Members;") (List.mem_of_getElem? (i := 1) rfl)) (fun _ h9 => h9) (fC_6_1 _ _) dX2_callStatic_7 ?_
    refine lv_iload_n hx hb dX2_callStatic_10 rfl (lv_at hl 2 rfl) ?_
    obtain ⟨r_11, hg_11, hf⟩ := oc_e hf
    refine mV_ri (wd := wC ad cI cJ cZ) (σ := σ) (As := [.int v2]) (rest := [.ref (ad 6)]) ⟨hx, hb, hml, hown, hts⟩ hK hP hD hS (c_X4_typeOf l D ad cI cJ cZ σ v2 hg_11) (cwV 1 hts gX2_callStatic_X4_typeOf rfl rfl rfl hd_X4_typeOf ⟨by show 0 + 1 ≤ R.frames; omega, by show 8 + (2 + 11) + (0) ≤ R.locals; omega⟩) rfl (wC_2 _ _ _ _ _) rfl hl.1 rfl (Nat.le_of_ble_eq_true rfl) dX2_callStatic_11 (fun H locs hP hS => ?_)
    refine lv_iload_n hx hb dX2_callStatic_14 rfl (lv_at hl 1 rfl) ?_
    refine lv_iload_n hx hb dX2_callStatic_15 rfl (lv_at hl 3 rfl) ?_
    obtain ⟨r_16, hg_16, hf⟩ := oc_e hf
    refine mV_wv (wd := wC ad cI cJ cZ) (σ := σ) (As := [.int r_11, .int v1, .int v3]) (rest := []) ⟨hx, hb, hml, hown, hts⟩ hK hP hD hS (c_X2_begin l D ad cI cJ cZ E hE 40 r_11 v1 v3 σ hg_16) (cwV 3 hts gX2_callStatic_X2_begin rfl rfl rfl hd_X2_begin ⟨by show fE + 42 + 1 ≤ R.frames; omega, by show 8 + (7 + 11) + (nE + 1086) ≤ R.locals; omega⟩) rfl (wC_6 _ _ _ _ _) rfl hl.1 rfl (Nat.le_of_ble_eq_true rfl) dX2_callStatic_16 (fun H locs hP hS => ?_)
    refine lv_aload_n hx hb dX2_callStatic_19 rfl (lv_at hl 0 rfl) ?_
    refine lv_iload_n hx hb dX2_callStatic_20 rfl (lv_at hl 1 rfl) ?_
    refine lv_iload_n hx hb dX2_callStatic_21 rfl (lv_at hl 2 rfl) ?_
    refine lv_iload_n hx hb dX2_callStatic_22 rfl (lv_at hl 3 rfl) ?_
    obtain ⟨r_23, hg_23, hf⟩ := oc_e hf
    refine mV_wv (wd := wC ad cI cJ cZ) (σ := r_16) (As := [.int v1, .int v2, .int v3]) (rest := []) ⟨hx, hb, hml, hown, hts⟩ hK hP hD hS (c_X2_enterBy l D ad cI cJ cZ E hE r_16 v1 v2 v3 hg_23) (cwV 3 hts gX2_callStatic_X2_enterBy rfl rfl rfl hd_X2_enterBy ⟨by show fE + 1 + 1 ≤ R.frames; omega, by show 8 + (4 + 11) + (nE + 23) ≤ R.locals; omega⟩) rfl (wC_6 _ _ _ _ _) rfl hl.1 rfl (Nat.le_of_ble_eq_true rfl) dX2_callStatic_23 (fun H locs hP hS => ?_)
    exact rt_v (wd := wC ad cI cJ cZ) hx hb hr hlk (Option.some.inj hf) hP hS dX2_callStatic_26
  · rw [if_neg c_1] at hf
    exact rt_v (wd := wC ad cI cJ cZ) hx hb hr hlk (Option.some.inj hf) hP hS dX2_callStatic_4
theorem hd_X2_callStatic : yX2_callStatic.cls = RX2 ∧ yX2_callStatic.cls ≠ "java/lang/invoke/MethodHandle" ∧ yX2_callStatic.cls ≠ "java/lang/invoke/VarHandle" ∧ (parseMethodDescriptor yX2_callStatic.desc).map (fun d => d.parameters.length) = some 3 := by decide +kernel
set_option maxHeartbeats 4000000 in
set_option maxRecDepth 100000 in
theorem c_X2_callStatic (l : Launch) (D : va_G) (ad : Nat → Nat) (cI cJ cZ : ClassId) {fE nE : Nat} (E : Int32 → Int32 → SS → Option SS) (hE : ∀ (v1 v2 : Int32) (σ : SS) {res : SS}, E v1 v2 σ = some res → Met l yX2_enter wsX2_enter ({ frames := fE, cells := 0, slots := 0, locals := nE } : Room) (PW D (tyw cI cJ cZ) (wC ad cI cJ cZ σ) [.ref (ad 6), .int v1, .int v2]) (va_Qv (fun (u : SS) => u = res) (fun u t => va_P D vwCl (wC ad cI cJ cZ u) t.heap) (aC ad)) 0 0 (aC ad)) (σ : SS) (v1 : Int32) (v2 : Int32) (v3 : Int32) {res : SS} (hf : p_X2_callStatic_0 E v1 v2 v3 σ = some res) : Met l yX2_callStatic wsX2_callStatic ({ frames := fE + 43, cells := 0, slots := 0, locals := nE + 1112 } : Room) (PW D (tyw cI cJ cZ) (wC ad cI cJ cZ σ) [.ref (ad 6), .int v1, .int v2, .int v3]) (va_Qv (fun (u : SS) => u = res) (fun u t => va_P D vwCl (wC ad cI cJ cZ u) t.heap) (aC ad)) 0 0 (aC ad) := by
  refine Met.ofW (cc := cX2_callStatic) (maxL := 4) (ret := none) (by decide) rfl ?_
  intro p e s m args below meth c s₁ B9 hml hv
  obtain ⟨rfl, hP, hK, hD0⟩ := hv
  have hD : ∀ σ, va_D (aC ad) (wC ad cI cJ cZ σ) := fun σ => wd_D hD0 (wC_map _ _ _ _ _) (wC_map _ _ _ _ _)
  have hm : mx p s m _ meth c cX2_callStatic 4 none wsX2_callStatic RX2 := ⟨B9.exec, B9.bytes, B9.returns, hml, findClass_of_methodNamed B9.named, atoms_spec (ws := wsX2_callStatic) B9.pre, B9.notSynchronized⟩
  have hl := lv_entry ([.ref (ad 6), .int v1, .int v2, .int v3]) (n := 4) (Nat.le_of_ble_eq_true rfl)
  rw [lg_entry_eq]
  generalize (lg_sl ([.ref (ad 6), .int v1, .int v2, .int v3]) ++ List.replicate (4 - (lg_sl ([.ref (ad 6), .int v1, .int v2, .int v3])).length) Slot.unset).toArray = ls at hl ⊢
  exact w_X2_callStatic_0 hm ⟨Nat.le_refl _, Nat.le_refl _⟩ hK hD E hE v1 v2 v3 σ hf _ _ _ hP va_S.rf hl
/-! CallGraphs$DrawnRun.callBagged(III)V -/
theorem in_X2_callBagged_X2 : ∀ w ∈ u_ws RX2 TX2 15, w ∈ wsX2_callBagged := fun w h => List.mem_cons_of_mem _ (List.mem_append_left _ (List.mem_append_left _ (List.mem_append_left _ (List.mem_append_left _ (List.mem_append_right _ h)))))
def p_X2_callBagged_0 (E : Int32 → Int32 → SS → Option SS) (v1 : Int32) (v2 : Int32) (v3 : Int32) (σ : SS) : Option (SS) := oi v2 4 (if (σ.1 31 v2.toNatClampNeg) = 0 then some σ else oi v2 4 (oc (p_X2_draw_0 (σ.1 31 v2.toNatClampNeg) σ) (fun r_27 => oi ((v2 * 48) + r_27.1) 192 (oc (p_X2_enterBy_0 E v1 (r_27.2.1 30 ((v2 * 48) + r_27.1).toNatClampNeg) v3 r_27.2) (fun r_33 => some r_33)))))
set_option maxHeartbeats 4000000 in
set_option maxRecDepth 100000 in
theorem w_X2_callBagged_0 {p : Program} {l : Launch} {e : Env} {R : Room} {s : State} {m : MethodId} {args : Array Value} {below : List Frame} {meth : Method} {c : Code} {D : va_G} {ad : Nat → Nat} {cI cJ cZ : ClassId} {fE nE : Nat} {res : SS} (hm : mx p s m args meth c cX2_callBagged 4 none wsX2_callBagged RX2) (hR : fE + 2 ≤ R.frames ∧ nE + 46 ≤ R.locals) (hK : va_K D vwCl (tyw cI cJ cZ) s) (hD : ∀ σ, va_D (aC ad) (wC ad cI cJ cZ σ)) (E : Int32 → Int32 → SS → Option SS) (hE : ∀ (v1 v2 : Int32) (σ : SS) {res : SS}, E v1 v2 σ = some res → Met l yX2_enter wsX2_enter ({ frames := fE, cells := 0, slots := 0, locals := nE } : Room) (PW D (tyw cI cJ cZ) (wC ad cI cJ cZ σ) [.ref (ad 6), .int v1, .int v2]) (va_Qv (fun (u : SS) => u = res) (fun u t => va_P D vwCl (wC ad cI cJ cZ u) t.heap) (aC ad)) 0 0 (aC ad)) (v1 : Int32) (v2 : Int32) (v3 : Int32) (σ : SS) (hf : p_X2_callBagged_0 E v1 v2 v3 σ = some res) (H : Heap) (locs : List Loc) (ls : Array Slot) (hP : va_P D vwCl (wC ad cI cJ cZ σ) H) (hS : va_S (aC ad) s.heap H locs) (hl : lv_has ls 4 [(0, .ref (ad 6)), (1, .int v1), (2, .int v2), (3, .int v3)]) : W p l e R s m args below meth c H locs 0 0 (MQ below (va_Qv (fun (u : SS) => u = res) (fun u t => va_P D vwCl (wC ad cI cJ cZ u) t.heap) (aC ad)) args s 0 0 (aC ad)) (F0 m 0 ls []) := by
  obtain ⟨hx, hb, hr, hml, hown, hts, hlk⟩ := id hm
  obtain ⟨hR1, hR2⟩ := id hR
  unfold p_X2_callBagged_0 at hf
  refine lv_aload_n hx hb dX2_callBagged_0 rfl (lv_at hl 0 rfl) ?_
  refine va_get (D := D) (ci := 1) (v := .ref (ad 31)) (C := RX2) (T := TX2) (N := 15) hx hb hts in_X2_callBagged_X2 hown hK hP 6 (wC_6 _ _ _ _ _) rfl 6 (by decide) (hts (.fieldLink RX2 18 "CallGraphs$DrawnRun" "bagCounts" "[I") (List.mem_of_getElem? (i := 1) rfl)) (fun _ h9 => h9) (fC_6_6 _ _) dX2_callBagged_1 ?_
  refine lv_iload_n hx hb dX2_callBagged_4 rfl (lv_at hl 2 rfl) ?_
  obtain ⟨h_5, hf⟩ := oi_e hf
  refine va_iald hx hb hK hP 31 0 (wC_31 _ _ _ _ _) rfl h_5 dX2_callBagged_5 ?_
  refine lv_if_ne (tgt := 10) hx hb dX2_callBagged_6 (by decide) (fun c_6 => ?_) (fun c_6 => ?_)
  · rw [if_neg c_6] at hf
    refine lv_aload_n hx hb dX2_callBagged_10 rfl (lv_at hl 0 rfl) ?_
    refine lv_iload_n hx hb dX2_callBagged_11 rfl (lv_at hl 1 rfl) ?_
    refine lv_aload_n hx hb dX2_callBagged_12 rfl (lv_at hl 0 rfl) ?_
    refine va_get (D := D) (ci := 1) (v := .ref (ad 30)) (C := RX2) (T := TX2) (N := 15) hx hb hts in_X2_callBagged_X2 hown hK hP 6 (wC_6 _ _ _ _ _) rfl 5 (by decide) (hts (.fieldLink RX2 15 "CallGraphs$DrawnRun" "bagged" "[I") (List.mem_of_getElem? (i := 2) rfl)) (fun _ h9 => h9) (fC_6_5 _ _) dX2_callBagged_13 ?_
    refine lv_iload_n hx hb dX2_callBagged_16 rfl (lv_at hl 2 rfl) ?_
    refine lv_bipush (v := 48) hx hb dX2_callBagged_17 (by decide) ?_
    refine lv_imul hx hb dX2_callBagged_19 ?_
    refine lv_aload_n hx hb dX2_callBagged_20 rfl (lv_at hl 0 rfl) ?_
    refine lv_aload_n hx hb dX2_callBagged_21 rfl (lv_at hl 0 rfl) ?_
    refine va_get (D := D) (ci := 1) (v := .ref (ad 31)) (C := RX2) (T := TX2) (N := 15) hx hb hts in_X2_callBagged_X2 hown hK hP 6 (wC_6 _ _ _ _ _) rfl 6 (by decide) (hts (.fieldLink RX2 18 "CallGraphs$DrawnRun" "bagCounts" "[I") (List.mem_of_getElem? (i := 1) rfl)) (fun _ h9 => h9) (fC_6_6 _ _) dX2_callBagged_22 ?_
    refine lv_iload_n hx hb dX2_callBagged_25 rfl (lv_at hl 2 rfl) ?_
    obtain ⟨h_26, hf⟩ := oi_e hf
    refine va_iald hx hb hK hP 31 0 (wC_31 _ _ _ _ _) rfl h_26 dX2_callBagged_26 ?_
    obtain ⟨r_27, hg_27, hf⟩ := oc_e hf
    refine mV_wi (wd := wC ad cI cJ cZ) (σ := σ) (As := [.int (σ.1 31 v2.toNatClampNeg)]) (rest := [.int (v2 * 48), .ref (ad 30), .int v1, .ref (ad 6)]) ⟨hx, hb, hml, hown, hts⟩ hK hP hD hS (c_X2_draw l D ad cI cJ cZ σ (σ.1 31 v2.toNatClampNeg) hg_27) (cwV 1 hts gX2_callBagged_X2_draw rfl rfl rfl hd_X2_draw ⟨by show 0 + 1 ≤ R.frames; omega, by show 8 + (2 + 11) + (0) ≤ R.locals; omega⟩) rfl (wC_6 _ _ _ _ _) rfl hl.1 rfl (Nat.le_of_ble_eq_true rfl) dX2_callBagged_27 (fun H locs hP hS => ?_)
    refine lv_iadd hx hb dX2_callBagged_30 ?_
    obtain ⟨h_31, hf⟩ := oi_e hf
    refine va_iald hx hb hK hP 30 0 (wC_30 _ _ _ _ _) rfl h_31 dX2_callBagged_31 ?_
    refine lv_iload_n hx hb dX2_callBagged_32 rfl (lv_at hl 3 rfl) ?_
    obtain ⟨r_33, hg_33, hf⟩ := oc_e hf
    refine mV_wv (wd := wC ad cI cJ cZ) (σ := r_27.2) (As := [.int v1, .int (r_27.2.1 30 ((v2 * 48) + r_27.1).toNatClampNeg), .int v3]) (rest := []) ⟨hx, hb, hml, hown, hts⟩ hK hP hD hS (c_X2_enterBy l D ad cI cJ cZ E hE r_27.2 v1 (r_27.2.1 30 ((v2 * 48) + r_27.1).toNatClampNeg) v3 hg_33) (cwV 3 hts gX2_callBagged_X2_enterBy rfl rfl rfl hd_X2_enterBy ⟨by show fE + 1 + 1 ≤ R.frames; omega, by show 8 + (4 + 11) + (nE + 23) ≤ R.locals; omega⟩) rfl (wC_6 _ _ _ _ _) rfl hl.1 rfl (Nat.le_of_ble_eq_true rfl) dX2_callBagged_33 (fun H locs hP hS => ?_)
    exact rt_v (wd := wC ad cI cJ cZ) hx hb hr hlk (Option.some.inj hf) hP hS dX2_callBagged_36
  · rw [if_pos c_6] at hf
    exact rt_v (wd := wC ad cI cJ cZ) hx hb hr hlk (Option.some.inj hf) hP hS dX2_callBagged_9
theorem hd_X2_callBagged : yX2_callBagged.cls = RX2 ∧ yX2_callBagged.cls ≠ "java/lang/invoke/MethodHandle" ∧ yX2_callBagged.cls ≠ "java/lang/invoke/VarHandle" ∧ (parseMethodDescriptor yX2_callBagged.desc).map (fun d => d.parameters.length) = some 3 := by decide +kernel
set_option maxHeartbeats 4000000 in
set_option maxRecDepth 100000 in
theorem c_X2_callBagged (l : Launch) (D : va_G) (ad : Nat → Nat) (cI cJ cZ : ClassId) {fE nE : Nat} (E : Int32 → Int32 → SS → Option SS) (hE : ∀ (v1 v2 : Int32) (σ : SS) {res : SS}, E v1 v2 σ = some res → Met l yX2_enter wsX2_enter ({ frames := fE, cells := 0, slots := 0, locals := nE } : Room) (PW D (tyw cI cJ cZ) (wC ad cI cJ cZ σ) [.ref (ad 6), .int v1, .int v2]) (va_Qv (fun (u : SS) => u = res) (fun u t => va_P D vwCl (wC ad cI cJ cZ u) t.heap) (aC ad)) 0 0 (aC ad)) (σ : SS) (v1 : Int32) (v2 : Int32) (v3 : Int32) {res : SS} (hf : p_X2_callBagged_0 E v1 v2 v3 σ = some res) : Met l yX2_callBagged wsX2_callBagged ({ frames := fE + 2, cells := 0, slots := 0, locals := nE + 46 } : Room) (PW D (tyw cI cJ cZ) (wC ad cI cJ cZ σ) [.ref (ad 6), .int v1, .int v2, .int v3]) (va_Qv (fun (u : SS) => u = res) (fun u t => va_P D vwCl (wC ad cI cJ cZ u) t.heap) (aC ad)) 0 0 (aC ad) := by
  refine Met.ofW (cc := cX2_callBagged) (maxL := 4) (ret := none) (by decide) rfl ?_
  intro p e s m args below meth c s₁ B9 hml hv
  obtain ⟨rfl, hP, hK, hD0⟩ := hv
  have hD : ∀ σ, va_D (aC ad) (wC ad cI cJ cZ σ) := fun σ => wd_D hD0 (wC_map _ _ _ _ _) (wC_map _ _ _ _ _)
  have hm : mx p s m _ meth c cX2_callBagged 4 none wsX2_callBagged RX2 := ⟨B9.exec, B9.bytes, B9.returns, hml, findClass_of_methodNamed B9.named, atoms_spec (ws := wsX2_callBagged) B9.pre, B9.notSynchronized⟩
  have hl := lv_entry ([.ref (ad 6), .int v1, .int v2, .int v3]) (n := 4) (Nat.le_of_ble_eq_true rfl)
  rw [lg_entry_eq]
  generalize (lg_sl ([.ref (ad 6), .int v1, .int v2, .int v3]) ++ List.replicate (4 - (lg_sl ([.ref (ad 6), .int v1, .int v2, .int v3])).length) Slot.unset).toArray = ls at hl ⊢
  exact w_X2_callBagged_0 hm ⟨Nat.le_refl _, Nat.le_refl _⟩ hK hD E hE v1 v2 v3 σ hf _ _ _ hP va_S.rf hl
/-! CallGraphs$DrawnRun.callAny(IJI)V -/

def p_X2_callAny_25 (E : Int32 → Int32 → SS → Option SS) (σ : SS) : Option (SS) := some σ
set_option maxHeartbeats 4000000 in
set_option maxRecDepth 100000 in
theorem w_X2_callAny_25 {p : Program} {l : Launch} {e : Env} {R : Room} {s : State} {m : MethodId} {args : Array Value} {below : List Frame} {meth : Method} {c : Code} {D : va_G} {ad : Nat → Nat} {cI cJ cZ : ClassId} {fE nE : Nat} {res : SS} (hm : mx p s m args meth c cX2_callAny 5 none wsX2_callAny RX2) (hR : fE + 2 ≤ R.frames ∧ nE + 46 ≤ R.locals) (hK : va_K D vwCl (tyw cI cJ cZ) s) (hD : ∀ σ, va_D (aC ad) (wC ad cI cJ cZ σ)) (E : Int32 → Int32 → SS → Option SS) (hE : ∀ (v1 v2 : Int32) (σ : SS) {res : SS}, E v1 v2 σ = some res → Met l yX2_enter wsX2_enter ({ frames := fE, cells := 0, slots := 0, locals := nE } : Room) (PW D (tyw cI cJ cZ) (wC ad cI cJ cZ σ) [.ref (ad 6), .int v1, .int v2]) (va_Qv (fun (u : SS) => u = res) (fun u t => va_P D vwCl (wC ad cI cJ cZ u) t.heap) (aC ad)) 0 0 (aC ad)) (σ : SS) (hf : p_X2_callAny_25 E σ = some res) (H : Heap) (locs : List Loc) (ls : Array Slot) (hP : va_P D vwCl (wC ad cI cJ cZ σ) H) (hS : va_S (aC ad) s.heap H locs) (hl : lv_has ls 5 []) : W p l e R s m args below meth c H locs 0 0 (MQ below (va_Qv (fun (u : SS) => u = res) (fun u t => va_P D vwCl (wC ad cI cJ cZ u) t.heap) (aC ad)) args s 0 0 (aC ad)) (F0 m 25 ls []) := by
  obtain ⟨hx, hb, hr, hml, hown, hts, hlk⟩ := id hm
  obtain ⟨hR1, hR2⟩ := id hR
  unfold p_X2_callAny_25 at hf
  exact rt_v (wd := wC ad cI cJ cZ) hx hb hr hlk (Option.some.inj hf) hP hS dX2_callAny_25
def p_X2_callAny_0 (E : Int32 → Int32 → SS → Option SS) (v1 : Int32) (v2 : Int64) (v4 : Int32) (σ : SS) : Option (SS) := if (lg_cmp v2 0) = 0 then p_X2_callAny_25 E σ else oc (p_J13_bitCount_95d88_0 v2) (fun r_11 => oc (p_X2_draw_0 r_11 σ) (fun r_14 => oc (p_X0_nth_0 v2 r_14.1) (fun r_17 => oc (p_X2_enterBy_0 E v1 r_17 v4 r_14.2) (fun r_22 => p_X2_callAny_25 E r_22))))
set_option maxHeartbeats 4000000 in
set_option maxRecDepth 100000 in
theorem w_X2_callAny_0 {p : Program} {l : Launch} {e : Env} {R : Room} {s : State} {m : MethodId} {args : Array Value} {below : List Frame} {meth : Method} {c : Code} {D : va_G} {ad : Nat → Nat} {cI cJ cZ : ClassId} {fE nE : Nat} {res : SS} (hm : mx p s m args meth c cX2_callAny 5 none wsX2_callAny RX2) (hR : fE + 2 ≤ R.frames ∧ nE + 46 ≤ R.locals) (hK : va_K D vwCl (tyw cI cJ cZ) s) (hD : ∀ σ, va_D (aC ad) (wC ad cI cJ cZ σ)) (E : Int32 → Int32 → SS → Option SS) (hE : ∀ (v1 v2 : Int32) (σ : SS) {res : SS}, E v1 v2 σ = some res → Met l yX2_enter wsX2_enter ({ frames := fE, cells := 0, slots := 0, locals := nE } : Room) (PW D (tyw cI cJ cZ) (wC ad cI cJ cZ σ) [.ref (ad 6), .int v1, .int v2]) (va_Qv (fun (u : SS) => u = res) (fun u t => va_P D vwCl (wC ad cI cJ cZ u) t.heap) (aC ad)) 0 0 (aC ad)) (v1 : Int32) (v2 : Int64) (v4 : Int32) (σ : SS) (hf : p_X2_callAny_0 E v1 v2 v4 σ = some res) (H : Heap) (locs : List Loc) (ls : Array Slot) (hP : va_P D vwCl (wC ad cI cJ cZ σ) H) (hS : va_S (aC ad) s.heap H locs) (hl : lv_has ls 5 [(0, .ref (ad 6)), (1, .int v1), (2, .long v2), (4, .int v4)]) : W p l e R s m args below meth c H locs 0 0 (MQ below (va_Qv (fun (u : SS) => u = res) (fun u t => va_P D vwCl (wC ad cI cJ cZ u) t.heap) (aC ad)) args s 0 0 (aC ad)) (F0 m 0 ls []) := by
  obtain ⟨hx, hb, hr, hml, hown, hts, hlk⟩ := id hm
  obtain ⟨hR1, hR2⟩ := id hR
  unfold p_X2_callAny_0 at hf
  refine lv_lload_n hx hb dX2_callAny_0 rfl (lv_at hl 2 rfl) ?_
  refine lv_lconst (v := 0) hx hb dX2_callAny_1 (by decide) ?_
  refine W.lcmp hx hb dX2_callAny_2 ?_
  refine lv_if_eq (tgt := 25) hx hb dX2_callAny_3 (by decide) (fun c_3 => ?_) (fun c_3 => ?_)
  · rw [if_pos c_3] at hf
    exact w_X2_callAny_25 hm hR hK hD E hE σ hf _ _ _ hP hS (lv_sub hl [] rfl)
  · rw [if_neg c_3] at hf
    refine lv_aload_n hx hb dX2_callAny_6 rfl (lv_at hl 0 rfl) ?_
    refine lv_iload_n hx hb dX2_callAny_7 rfl (lv_at hl 1 rfl) ?_
    refine lv_lload_n hx hb dX2_callAny_8 rfl (lv_at hl 2 rfl) ?_
    refine lv_aload_n hx hb dX2_callAny_9 rfl (lv_at hl 0 rfl) ?_
    refine lv_lload_n hx hb dX2_callAny_10 rfl (lv_at hl 2 rfl) ?_
    obtain ⟨r_11, hg_11, hf⟩ := oc_e hf
    refine mS_i (D := D) (As := [.long v2]) (rest := [.ref (ad 6), .long v2, .int v1, .ref (ad 6)]) ⟨hx, hb, hml, hown, hts⟩ hP hS (c_J13_bitCount_95d88 l v2 hg_11) (va_cwS 1 hts gX2_callAny_J13_bitCount_95d88 rfl rfl rfl hd_J13_bitCount_95d88 ⟨by show 0 + 1 ≤ R.frames; omega, by show 8 + (2 + 11) + (0) ≤ R.locals; omega⟩) rfl hl.1 rfl (Nat.le_of_ble_eq_true rfl) dX2_callAny_11 (fun H locs hP hS => ?_)
    obtain ⟨r_14, hg_14, hf⟩ := oc_e hf
    refine mV_wi (wd := wC ad cI cJ cZ) (σ := σ) (As := [.int r_11]) (rest := [.long v2, .int v1, .ref (ad 6)]) ⟨hx, hb, hml, hown, hts⟩ hK hP hD hS (c_X2_draw l D ad cI cJ cZ σ r_11 hg_14) (cwV 1 hts gX2_callAny_X2_draw rfl rfl rfl hd_X2_draw ⟨by show 0 + 1 ≤ R.frames; omega, by show 8 + (2 + 11) + (0) ≤ R.locals; omega⟩) rfl (wC_6 _ _ _ _ _) rfl hl.1 rfl (Nat.le_of_ble_eq_true rfl) dX2_callAny_14 (fun H locs hP hS => ?_)
    obtain ⟨r_17, hg_17, hf⟩ := oc_e hf
    refine mS_i (D := D) (As := [.long v2, .int r_14.1]) (rest := [.int v1, .ref (ad 6)]) ⟨hx, hb, hml, hown, hts⟩ hP hS (c_X0_nth l v2 r_14.1 hg_17) (va_cwS 2 hts gX2_callAny_X0_nth rfl rfl rfl hd_X0_nth ⟨by show 1 + 1 ≤ R.frames; omega, by show 8 + (5 + 11) + (22) ≤ R.locals; omega⟩) rfl hl.1 rfl (Nat.le_of_ble_eq_true rfl) dX2_callAny_17 (fun H locs hP hS => ?_)
    refine lv_iload hx hb dX2_callAny_20 (lv_at hl 3 rfl) ?_
    obtain ⟨r_22, hg_22, hf⟩ := oc_e hf
    refine mV_wv (wd := wC ad cI cJ cZ) (σ := r_14.2) (As := [.int v1, .int r_17, .int v4]) (rest := []) ⟨hx, hb, hml, hown, hts⟩ hK hP hD hS (c_X2_enterBy l D ad cI cJ cZ E hE r_14.2 v1 r_17 v4 hg_22) (cwV 3 hts gX2_callAny_X2_enterBy rfl rfl rfl hd_X2_enterBy ⟨by show fE + 1 + 1 ≤ R.frames; omega, by show 8 + (4 + 11) + (nE + 23) ≤ R.locals; omega⟩) rfl (wC_6 _ _ _ _ _) rfl hl.1 rfl (Nat.le_of_ble_eq_true rfl) dX2_callAny_22 (fun H locs hP hS => ?_)
    exact w_X2_callAny_25 hm hR hK hD E hE r_22 hf _ _ _ hP hS (lv_sub hl [] rfl)
theorem hd_X2_callAny : yX2_callAny.cls = RX2 ∧ yX2_callAny.cls ≠ "java/lang/invoke/MethodHandle" ∧ yX2_callAny.cls ≠ "java/lang/invoke/VarHandle" ∧ (parseMethodDescriptor yX2_callAny.desc).map (fun d => d.parameters.length) = some 3 := by decide +kernel
set_option maxHeartbeats 4000000 in
set_option maxRecDepth 100000 in
theorem c_X2_callAny (l : Launch) (D : va_G) (ad : Nat → Nat) (cI cJ cZ : ClassId) {fE nE : Nat} (E : Int32 → Int32 → SS → Option SS) (hE : ∀ (v1 v2 : Int32) (σ : SS) {res : SS}, E v1 v2 σ = some res → Met l yX2_enter wsX2_enter ({ frames := fE, cells := 0, slots := 0, locals := nE } : Room) (PW D (tyw cI cJ cZ) (wC ad cI cJ cZ σ) [.ref (ad 6), .int v1, .int v2]) (va_Qv (fun (u : SS) => u = res) (fun u t => va_P D vwCl (wC ad cI cJ cZ u) t.heap) (aC ad)) 0 0 (aC ad)) (σ : SS) (v1 : Int32) (v2 : Int64) (v4 : Int32) {res : SS} (hf : p_X2_callAny_0 E v1 v2 v4 σ = some res) : Met l yX2_callAny wsX2_callAny ({ frames := fE + 2, cells := 0, slots := 0, locals := nE + 46 } : Room) (PW D (tyw cI cJ cZ) (wC ad cI cJ cZ σ) [.ref (ad 6), .int v1, .long v2, .int v4]) (va_Qv (fun (u : SS) => u = res) (fun u t => va_P D vwCl (wC ad cI cJ cZ u) t.heap) (aC ad)) 0 0 (aC ad) := by
  refine Met.ofW (cc := cX2_callAny) (maxL := 5) (ret := none) (by decide) rfl ?_
  intro p e s m args below meth c s₁ B9 hml hv
  obtain ⟨rfl, hP, hK, hD0⟩ := hv
  have hD : ∀ σ, va_D (aC ad) (wC ad cI cJ cZ σ) := fun σ => wd_D hD0 (wC_map _ _ _ _ _) (wC_map _ _ _ _ _)
  have hm : mx p s m _ meth c cX2_callAny 5 none wsX2_callAny RX2 := ⟨B9.exec, B9.bytes, B9.returns, hml, findClass_of_methodNamed B9.named, atoms_spec (ws := wsX2_callAny) B9.pre, B9.notSynchronized⟩
  have hl := lv_entry ([.ref (ad 6), .int v1, .long v2, .int v4]) (n := 5) (Nat.le_of_ble_eq_true rfl)
  rw [lg_entry_eq]
  generalize (lg_sl ([.ref (ad 6), .int v1, .long v2, .int v4]) ++ List.replicate (5 - (lg_sl ([.ref (ad 6), .int v1, .long v2, .int v4])).length) Slot.unset).toArray = ls at hl ⊢
  exact w_X2_callAny_0 hm ⟨Nat.le_refl _, Nat.le_refl _⟩ hK hD E hE v1 v2 v4 σ hf _ _ _ hP va_S.rf hl
/-! CallGraphs$DrawnRun.perform(II)V -/
theorem in_X2_perform_X2 : ∀ w ∈ u_ws RX2 TX2 15, w ∈ wsX2_perform := fun w h => List.mem_cons_of_mem _ (List.mem_append_left _ (List.mem_append_left _ (List.mem_append_left _ (List.mem_append_left _ (List.mem_append_right _ h)))))
def p_X2_perform_187 (E : Int32 → Int32 → SS → Option SS) (σ : SS) : Option (SS) := some σ
set_option maxHeartbeats 4000000 in
set_option maxRecDepth 100000 in
theorem w_X2_perform_187 {p : Program} {l : Launch} {e : Env} {R : Room} {s : State} {m : MethodId} {args : Array Value} {below : List Frame} {meth : Method} {c : Code} {D : va_G} {ad : Nat → Nat} {cI cJ cZ : ClassId} {fE nE : Nat} {res : SS} (hm : mx p s m args meth c cX2_perform 5 none wsX2_perform RX2) (hR : fE + 44 ≤ R.frames ∧ nE + 1135 ≤ R.locals) (hK : va_K D vwCl (tyw cI cJ cZ) s) (hD : ∀ σ, va_D (aC ad) (wC ad cI cJ cZ σ)) (E : Int32 → Int32 → SS → Option SS) (hE : ∀ (v1 v2 : Int32) (σ : SS) {res : SS}, E v1 v2 σ = some res → Met l yX2_enter wsX2_enter ({ frames := fE, cells := 0, slots := 0, locals := nE } : Room) (PW D (tyw cI cJ cZ) (wC ad cI cJ cZ σ) [.ref (ad 6), .int v1, .int v2]) (va_Qv (fun (u : SS) => u = res) (fun u t => va_P D vwCl (wC ad cI cJ cZ u) t.heap) (aC ad)) 0 0 (aC ad)) (σ : SS) (hf : p_X2_perform_187 E σ = some res) (H : Heap) (locs : List Loc) (ls : Array Slot) (hP : va_P D vwCl (wC ad cI cJ cZ σ) H) (hS : va_S (aC ad) s.heap H locs) (hl : lv_has ls 5 []) : W p l e R s m args below meth c H locs 0 0 (MQ below (va_Qv (fun (u : SS) => u = res) (fun u t => va_P D vwCl (wC ad cI cJ cZ u) t.heap) (aC ad)) args s 0 0 (aC ad)) (F0 m 187 ls []) := by
  obtain ⟨hx, hb, hr, hml, hown, hts, hlk⟩ := id hm
  obtain ⟨hR1, hR2⟩ := id hR
  unfold p_X2_perform_187 at hf
  exact rt_v (wd := wC ad cI cJ cZ) hx hb hr hlk (Option.some.inj hf) hP hS dX2_perform_187
def p_X2_perform_104 (E : Int32 → Int32 → SS → Option SS) (v1 : Int32) (v2 : Int32) (σ : SS) : Option (SS) := oc (p_X2_callPooled_0 E v1 v2 σ) (fun r_107 => p_X2_perform_187 E r_107)
set_option maxHeartbeats 4000000 in
set_option maxRecDepth 100000 in
theorem w_X2_perform_104 {p : Program} {l : Launch} {e : Env} {R : Room} {s : State} {m : MethodId} {args : Array Value} {below : List Frame} {meth : Method} {c : Code} {D : va_G} {ad : Nat → Nat} {cI cJ cZ : ClassId} {fE nE : Nat} {res : SS} (hm : mx p s m args meth c cX2_perform 5 none wsX2_perform RX2) (hR : fE + 44 ≤ R.frames ∧ nE + 1135 ≤ R.locals) (hK : va_K D vwCl (tyw cI cJ cZ) s) (hD : ∀ σ, va_D (aC ad) (wC ad cI cJ cZ σ)) (E : Int32 → Int32 → SS → Option SS) (hE : ∀ (v1 v2 : Int32) (σ : SS) {res : SS}, E v1 v2 σ = some res → Met l yX2_enter wsX2_enter ({ frames := fE, cells := 0, slots := 0, locals := nE } : Room) (PW D (tyw cI cJ cZ) (wC ad cI cJ cZ σ) [.ref (ad 6), .int v1, .int v2]) (va_Qv (fun (u : SS) => u = res) (fun u t => va_P D vwCl (wC ad cI cJ cZ u) t.heap) (aC ad)) 0 0 (aC ad)) (v1 : Int32) (v2 : Int32) (σ : SS) (hf : p_X2_perform_104 E v1 v2 σ = some res) (H : Heap) (locs : List Loc) (ls : Array Slot) (hP : va_P D vwCl (wC ad cI cJ cZ σ) H) (hS : va_S (aC ad) s.heap H locs) (hl : lv_has ls 5 [(0, .ref (ad 6)), (1, .int v1), (2, .int v2)]) : W p l e R s m args below meth c H locs 0 0 (MQ below (va_Qv (fun (u : SS) => u = res) (fun u t => va_P D vwCl (wC ad cI cJ cZ u) t.heap) (aC ad)) args s 0 0 (aC ad)) (F0 m 104 ls []) := by
  obtain ⟨hx, hb, hr, hml, hown, hts, hlk⟩ := id hm
  obtain ⟨hR1, hR2⟩ := id hR
  unfold p_X2_perform_104 at hf
  refine lv_aload_n hx hb dX2_perform_104 rfl (lv_at hl 0 rfl) ?_
  refine lv_iload_n hx hb dX2_perform_105 rfl (lv_at hl 1 rfl) ?_
  refine lv_iload_n hx hb dX2_perform_106 rfl (lv_at hl 2 rfl) ?_
  obtain ⟨r_107, hg_107, hf⟩ := oc_e hf
  refine mV_wv (wd := wC ad cI cJ cZ) (σ := σ) (As := [.int v1, .int v2]) (rest := []) ⟨hx, hb, hml, hown, hts⟩ hK hP hD hS (c_X2_callPooled l D ad cI cJ cZ E hE σ v1 v2 hg_107) (cwV 2 hts gX2_perform_X2_callPooled rfl rfl rfl hd_X2_callPooled ⟨by show fE + 3 + 1 ≤ R.frames; omega, by show 8 + (6 + 11) + (nE + 68) ≤ R.locals; omega⟩) rfl (wC_6 _ _ _ _ _) rfl hl.1 rfl (Nat.le_of_ble_eq_true rfl) dX2_perform_107 (fun H locs hP hS => ?_)
  refine lv_goto (tgt := 187) hx hb dX2_perform_110 (by decide) ?_
  exact w_X2_perform_187 hm hR hK hD E hE r_107 hf _ _ _ hP hS (lv_sub hl [] rfl)
def p_X2_perform_0 (E : Int32 → Int32 → SS → Option SS) (v1 : Int32) (v2 : Int32) (σ : SS) : Option (SS) := oc (p_X5_a_0 σ v1) (fun r_5 => oc (p_X5_b_0 σ v1) (fun r_14 => oc (p_X5_kindOf_0 σ v1) (fun r_24 => (if r_24 = 0 then oc (p_X2_begin E 40 r_5 v1 v2 σ) (fun r_72 => if 20 ≤ (r_72.1 6 11) then p_X2_perform_187 E r_72 else os (sI r_72 6 11 ((r_72.1 6 11) + 1)) (fun s_96 => oi (r_72.1 6 11) 20 (os (sI s_96 29 ((r_72.1 6 11).toNatClampNeg) r_5) (fun s_100 => p_X2_perform_187 E s_100)))) else if r_24 = 1 then p_X2_perform_104 E v1 v2 σ else if r_24 = 2 then oc (p_X1_choose_0 σ r_5 r_5 r_14) (fun r_123 => oc (p_X2_enterBy_0 E v1 r_123 v2 σ) (fun r_127 => p_X2_perform_187 E r_127)) else if r_24 = 3 then oc (p_X1_chooseStatic_0 σ r_5 r_14) (fun r_142 => oc (p_X2_callStatic_0 E v1 r_142 v2 σ) (fun r_146 => p_X2_perform_187 E r_146)) else if r_24 = 4 then p_X2_perform_104 E v1 v2 σ else if r_24 = 5 then oc (p_X2_put_0 r_5 r_14 σ) (fun r_156 => p_X2_perform_187 E r_156) else if r_24 = 6 then oc (p_X2_callBagged_0 E v1 r_5 v2 σ) (fun r_166 => p_X2_perform_187 E r_166) else oc (p_X4_handlesOf_0 σ r_14) (fun r_180 => oc (p_X2_callAny_0 E v1 r_180 v2 σ) (fun r_184 => p_X2_perform_187 E r_184))))))
set_option maxHeartbeats 4000000 in
set_option maxRecDepth 100000 in
theorem w_X2_perform_0 {p : Program} {l : Launch} {e : Env} {R : Room} {s : State} {m : MethodId} {args : Array Value} {below : List Frame} {meth : Method} {c : Code} {D : va_G} {ad : Nat → Nat} {cI cJ cZ : ClassId} {fE nE : Nat} {res : SS} (hm : mx p s m args meth c cX2_perform 5 none wsX2_perform RX2) (hR : fE + 44 ≤ R.frames ∧ nE + 1135 ≤ R.locals) (hK : va_K D vwCl (tyw cI cJ cZ) s) (hD : ∀ σ, va_D (aC ad) (wC ad cI cJ cZ σ)) (E : Int32 → Int32 → SS → Option SS) (hE : ∀ (v1 v2 : Int32) (σ : SS) {res : SS}, E v1 v2 σ = some res → Met l yX2_enter wsX2_enter ({ frames := fE, cells := 0, slots := 0, locals := nE } : Room) (PW D (tyw cI cJ cZ) (wC ad cI cJ cZ σ) [.ref (ad 6), .int v1, .int v2]) (va_Qv (fun (u : SS) => u = res) (fun u t => va_P D vwCl (wC ad cI cJ cZ u) t.heap) (aC ad)) 0 0 (aC ad)) (v1 : Int32) (v2 : Int32) (σ : SS) (hf : p_X2_perform_0 E v1 v2 σ = some res) (H : Heap) (locs : List Loc) (ls : Array Slot) (hP : va_P D vwCl (wC ad cI cJ cZ σ) H) (hS : va_S (aC ad) s.heap H locs) (hl : lv_has ls 5 [(0, .ref (ad 6)), (1, .int v1), (2, .int v2)]) : W p l e R s m args below meth c H locs 0 0 (MQ below (va_Qv (fun (u : SS) => u = res) (fun u t => va_P D vwCl (wC ad cI cJ cZ u) t.heap) (aC ad)) args s 0 0 (aC ad)) (F0 m 0 ls []) := by
  obtain ⟨hx, hb, hr, hml, hown, hts, hlk⟩ := id hm
  obtain ⟨hR1, hR2⟩ := id hR
  unfold p_X2_perform_0 at hf
  refine lv_aload_n hx hb dX2_perform_0 rfl (lv_at hl 0 rfl) ?_
  refine va_get (D := D) (ci := 1) (v := .ref (ad 4)) (C := RX2) (T := TX2) (N := 15) hx hb hts in_X2_perform_X2 hown hK hP 6 (wC_6 _ _ _ _ _) rfl 3 (by decide) (hts (.fieldLink RX2 37 "CallGraphs$DrawnRun" "ops" "LCallGraphs$Ops;") (List.mem_of_getElem? (i := 1) rfl)) (fun _ h9 => h9) (fC_6_3 _ _) dX2_perform_1 ?_
  refine lv_iload_n hx hb dX2_perform_4 rfl (lv_at hl 1 rfl) ?_
  obtain ⟨r_5, hg_5, hf⟩ := oc_e hf
  refine mV_ri (wd := wC ad cI cJ cZ) (σ := σ) (As := [.int v1]) (rest := []) ⟨hx, hb, hml, hown, hts⟩ hK hP hD hS (c_X5_a l D ad cI cJ cZ σ v1 hg_5) (cwV 1 hts gX2_perform_X5_a rfl rfl rfl hd_X5_a ⟨by show 0 + 1 ≤ R.frames; omega, by show 8 + (2 + 11) + (0) ≤ R.locals; omega⟩) rfl (wC_4 _ _ _ _ _) rfl hl.1 rfl (Nat.le_of_ble_eq_true rfl) dX2_perform_5 (fun H locs hP hS => ?_)
  refine lv_istore_n (lv' := [(3, .int r_5), (0, .ref (ad 6)), (1, .int v1), (2, .int v2)]) hx hb dX2_perform_8 rfl hl (by decide) rfl (fun ls hl => ?_)
  refine lv_aload_n hx hb dX2_perform_9 rfl (lv_at hl 1 rfl) ?_
  refine va_get (D := D) (ci := 1) (v := .ref (ad 4)) (C := RX2) (T := TX2) (N := 15) hx hb hts in_X2_perform_X2 hown hK hP 6 (wC_6 _ _ _ _ _) rfl 3 (by decide) (hts (.fieldLink RX2 37 "CallGraphs$DrawnRun" "ops" "LCallGraphs$Ops;") (List.mem_of_getElem? (i := 1) rfl)) (fun _ h9 => h9) (fC_6_3 _ _) dX2_perform_10 ?_
  refine lv_iload_n hx hb dX2_perform_13 rfl (lv_at hl 2 rfl) ?_
  obtain ⟨r_14, hg_14, hf⟩ := oc_e hf
  refine mV_ri (wd := wC ad cI cJ cZ) (σ := σ) (As := [.int v1]) (rest := []) ⟨hx, hb, hml, hown, hts⟩ hK hP hD hS (c_X5_b l D ad cI cJ cZ σ v1 hg_14) (cwV 1 hts gX2_perform_X5_b rfl rfl rfl hd_X5_b ⟨by show 0 + 1 ≤ R.frames; omega, by show 8 + (2 + 11) + (0) ≤ R.locals; omega⟩) rfl (wC_4 _ _ _ _ _) rfl hl.1 rfl (Nat.le_of_ble_eq_true rfl) dX2_perform_14 (fun H locs hP hS => ?_)
  refine lv_istore (lv' := [(4, .int r_14), (3, .int r_5), (0, .ref (ad 6)), (1, .int v1), (2, .int v2)]) hx hb dX2_perform_17 hl (by decide) rfl (fun ls hl => ?_)
  refine lv_aload_n hx hb dX2_perform_19 rfl (lv_at hl 2 rfl) ?_
  refine va_get (D := D) (ci := 1) (v := .ref (ad 4)) (C := RX2) (T := TX2) (N := 15) hx hb hts in_X2_perform_X2 hown hK hP 6 (wC_6 _ _ _ _ _) rfl 3 (by decide) (hts (.fieldLink RX2 37 "CallGraphs$DrawnRun" "ops" "LCallGraphs$Ops;") (List.mem_of_getElem? (i := 1) rfl)) (fun _ h9 => h9) (fC_6_3 _ _) dX2_perform_20 ?_
  refine lv_iload_n hx hb dX2_perform_23 rfl (lv_at hl 3 rfl) ?_
  obtain ⟨r_24, hg_24, hf⟩ := oc_e hf
  refine mV_ri (wd := wC ad cI cJ cZ) (σ := σ) (As := [.int v1]) (rest := []) ⟨hx, hb, hml, hown, hts⟩ hK hP hD hS (c_X5_kindOf l D ad cI cJ cZ σ v1 hg_24) (cwV 1 hts gX2_perform_X5_kindOf rfl rfl rfl hd_X5_kindOf ⟨by show 0 + 1 ≤ R.frames; omega, by show 8 + (2 + 11) + (0) ≤ R.locals; omega⟩) rfl (wC_4 _ _ _ _ _) rfl hl.1 rfl (Nat.le_of_ble_eq_true rfl) dX2_perform_24 (fun H locs hP hS => ?_)
  by_cases c_27_0 : r_24 = 0
  · rw [if_pos c_27_0] at hf
    refine lv_tableIn (off := 41) (tgt := 68) hx hb dX2_perform_27 (by rw [c_27_0]; decide) (by rw [c_27_0]; decide) (by rw [c_27_0]; rfl) (by decide) ?_
    refine lv_aload_n hx hb dX2_perform_68 rfl (lv_at hl 2 rfl) ?_
    refine lv_iload_n hx hb dX2_perform_69 rfl (lv_at hl 1 rfl) ?_
    refine lv_iload_n hx hb dX2_perform_70 rfl (lv_at hl 3 rfl) ?_
    refine lv_iload_n hx hb dX2_perform_71 rfl (lv_at hl 4 rfl) ?_
    obtain ⟨r_72, hg_72, hf⟩ := oc_e hf
    refine mV_wv (wd := wC ad cI cJ cZ) (σ := σ) (As := [.int r_5, .int v1, .int v2]) (rest := []) ⟨hx, hb, hml, hown, hts⟩ hK hP hD hS (c_X2_begin l D ad cI cJ cZ E hE 40 r_5 v1 v2 σ hg_72) (cwV 3 hts gX2_perform_X2_begin rfl rfl rfl hd_X2_begin ⟨by show fE + 42 + 1 ≤ R.frames; omega, by show 8 + (7 + 11) + (nE + 1086) ≤ R.locals; omega⟩) rfl (wC_6 _ _ _ _ _) rfl hl.1 rfl (Nat.le_of_ble_eq_true rfl) dX2_perform_72 (fun H locs hP hS => ?_)
    refine lv_aload_n hx hb dX2_perform_75 rfl (lv_at hl 2 rfl) ?_
    refine va_get (D := D) (ci := 1) (v := .int (r_72.1 6 11)) (C := RX2) (T := TX2) (N := 15) hx hb hts in_X2_perform_X2 hown hK hP 6 (wC_6 _ _ _ _ _) rfl 11 (by decide) (hts (.fieldLink RX2 49 "CallGraphs$DrawnRun" "poolCount" "I") (List.mem_of_getElem? (i := 2) rfl)) (fun _ h9 => h9) (fC_6_11 _ _) dX2_perform_76 ?_
    refine lv_bipush (v := 20) hx hb dX2_perform_79 (by decide) ?_
    refine lv_icmp_ge (tgt := 187) hx hb dX2_perform_81 (by decide) (fun c_81 => ?_) (fun c_81 => ?_)
    · rw [if_pos c_81] at hf
      exact w_X2_perform_187 hm hR hK hD E hE r_72 hf _ _ _ hP hS (lv_sub hl [] rfl)
    · rw [if_neg c_81] at hf
      refine lv_aload_n hx hb dX2_perform_84 rfl (lv_at hl 2 rfl) ?_
      refine va_get (D := D) (ci := 1) (v := .ref (ad 29)) (C := RX2) (T := TX2) (N := 15) hx hb hts in_X2_perform_X2 hown hK hP 6 (wC_6 _ _ _ _ _) rfl 4 (by decide) (hts (.fieldLink RX2 9 "CallGraphs$DrawnRun" "pool" "[I") (List.mem_of_getElem? (i := 3) rfl)) (fun _ h9 => h9) (fC_6_4 _ _) dX2_perform_85 ?_
      refine lv_aload_n hx hb dX2_perform_88 rfl (lv_at hl 2 rfl) ?_
      refine lv_dup hx hb dX2_perform_89 rfl ?_
      refine va_get (D := D) (ci := 1) (v := .int (r_72.1 6 11)) (C := RX2) (T := TX2) (N := 15) hx hb hts in_X2_perform_X2 hown hK hP 6 (wC_6 _ _ _ _ _) rfl 11 (by decide) (hts (.fieldLink RX2 49 "CallGraphs$DrawnRun" "poolCount" "I") (List.mem_of_getElem? (i := 2) rfl)) (fun _ h9 => h9) (fC_6_11 _ _) dX2_perform_90 ?_
      refine lv_dup_x1 hx hb dX2_perform_93 rfl rfl ?_
      refine lv_iconst (v := 1) hx hb dX2_perform_94 (by decide) ?_
      refine lv_iadd hx hb dX2_perform_95 ?_
      refine va_put (D := D) (ci := 1) (v := .int ((r_72.1 6 11) + 1)) (ty := .int) (C := RX2) (T := TX2) (N := 15) hx hb hts in_X2_perform_X2 tyX2 tyX2_ok nmX2 hown hK hP (hD _) hS 6 (wC_6 _ _ _ _ _) rfl 11 (by decide) (hts (.fieldLink RX2 49 "CallGraphs$DrawnRun" "poolCount" "I") (List.mem_of_getElem? (i := 2) rfl)) (fun _ h9 => h9) rfl (tyX2_ok 11 (by decide)) rfl rfl (Nat.le_of_ble_eq_true rfl) dX2_perform_96 (fun H locs hP _ hS => ?_)
      have hP := wC_p6_11 hP
      obtain ⟨s_96, es_96, hf⟩ := os_e hf
      rw [← es_96] at hP
      refine lv_iload_n hx hb dX2_perform_99 rfl (lv_at hl 1 rfl) ?_
      obtain ⟨h_100, hf⟩ := oi_e hf
      refine va_iast hx hb hK hP (hD _) hS 29 0 (wC_29 _ _ _ _ _) rfl h_100 dX2_perform_100 (fun H locs hP _ hS => ?_)
      have hP := wC_s29 hP
      obtain ⟨s_100, es_100, hf⟩ := os_e hf
      rw [← es_100] at hP
      refine lv_goto (tgt := 187) hx hb dX2_perform_101 (by decide) ?_
      exact w_X2_perform_187 hm hR hK hD E hE s_100 hf _ _ _ hP hS (lv_sub hl [] rfl)
  rw [if_neg c_27_0] at hf
  by_cases c_27_1 : r_24 = 1
  · rw [if_pos c_27_1] at hf
    refine lv_tableIn (off := 77) (tgt := 104) hx hb dX2_perform_27 (by rw [c_27_1]; decide) (by rw [c_27_1]; decide) (by rw [c_27_1]; rfl) (by decide) ?_
    exact w_X2_perform_104 hm hR hK hD E hE v1 v2 σ hf _ _ _ hP hS (lv_sub hl [2, 3, 4] rfl)
  rw [if_neg c_27_1] at hf
  by_cases c_27_2 : r_24 = 2
  · rw [if_pos c_27_2] at hf
    refine lv_tableIn (off := 86) (tgt := 113) hx hb dX2_perform_27 (by rw [c_27_2]; decide) (by rw [c_27_2]; decide) (by rw [c_27_2]; rfl) (by decide) ?_
    refine lv_aload_n hx hb dX2_perform_113 rfl (lv_at hl 2 rfl) ?_
    refine lv_iload_n hx hb dX2_perform_114 rfl (lv_at hl 3 rfl) ?_
    refine lv_aload_n hx hb dX2_perform_115 rfl (lv_at hl 2 rfl) ?_
    refine va_get (D := D) (ci := 1) (v := .ref (ad 3)) (C := RX2) (T := TX2) (N := 15) hx hb hts in_X2_perform_X2 hown hK hP 6 (wC_6 _ _ _ _ _) rfl 2 (by decide) (hts (.fieldLink RX2 33 "CallGraphs$DrawnRun" "choices" "LCallGraphs$Choices;") (List.mem_of_getElem? (i := 4) rfl)) (fun _ h9 => h9) (fC_6_2 _ _) dX2_perform_116 ?_
    refine lv_iload_n hx hb dX2_perform_119 rfl (lv_at hl 1 rfl) ?_
    refine lv_iload_n hx hb dX2_perform_120 rfl (lv_at hl 1 rfl) ?_
    refine lv_iload hx hb dX2_perform_121 (lv_at hl 0 rfl) ?_
    obtain ⟨r_123, hg_123, hf⟩ := oc_e hf
    refine mV_ri (wd := wC ad cI cJ cZ) (σ := σ) (As := [.int r_5, .int r_5, .int r_14]) (rest := [.int v1, .ref (ad 6)]) ⟨hx, hb, hml, hown, hts⟩ hK hP hD hS (c_X1_choose l D ad cI cJ cZ σ r_5 r_5 r_14 hg_123) (cwV 3 hts gX2_perform_X1_choose rfl rfl rfl hd_X1_choose ⟨by show 1 + 1 ≤ R.frames; omega, by show 8 + (6 + 11) + (21) ≤ R.locals; omega⟩) rfl (wC_3 _ _ _ _ _) rfl hl.1 rfl (Nat.le_of_ble_eq_true rfl) dX2_perform_123 (fun H locs hP hS => ?_)
    refine lv_iload_n hx hb dX2_perform_126 rfl (lv_at hl 4 rfl) ?_
    obtain ⟨r_127, hg_127, hf⟩ := oc_e hf
    refine mV_wv (wd := wC ad cI cJ cZ) (σ := σ) (As := [.int v1, .int r_123, .int v2]) (rest := []) ⟨hx, hb, hml, hown, hts⟩ hK hP hD hS (c_X2_enterBy l D ad cI cJ cZ E hE σ v1 r_123 v2 hg_127) (cwV 3 hts gX2_perform_X2_enterBy rfl rfl rfl hd_X2_enterBy ⟨by show fE + 1 + 1 ≤ R.frames; omega, by show 8 + (4 + 11) + (nE + 23) ≤ R.locals; omega⟩) rfl (wC_6 _ _ _ _ _) rfl hl.1 rfl (Nat.le_of_ble_eq_true rfl) dX2_perform_127 (fun H locs hP hS => ?_)
    refine lv_goto (tgt := 187) hx hb dX2_perform_130 (by decide) ?_
    exact w_X2_perform_187 hm hR hK hD E hE r_127 hf _ _ _ hP hS (lv_sub hl [] rfl)
  rw [if_neg c_27_2] at hf
  by_cases c_27_3 : r_24 = 3
  · rw [if_pos c_27_3] at hf
    refine lv_tableIn (off := 106) (tgt := 133) hx hb dX2_perform_27 (by rw [c_27_3]; decide) (by rw [c_27_3]; decide) (by rw [c_27_3]; rfl) (by decide) ?_
    refine lv_aload_n hx hb dX2_perform_133 rfl (lv_at hl 2 rfl) ?_
    refine lv_iload_n hx hb dX2_perform_134 rfl (lv_at hl 3 rfl) ?_
    refine lv_aload_n hx hb dX2_perform_135 rfl (lv_at hl 2 rfl) ?_
    refine va_get (D := D) (ci := 1) (v := .ref (ad 3)) (C := RX2) (T := TX2) (N := 15) hx hb hts in_X2_perform_X2 hown hK hP 6 (wC_6 _ _ _ _ _) rfl 2 (by decide) (hts (.fieldLink RX2 33 "CallGraphs$DrawnRun" "choices" "LCallGraphs$Choices;") (List.mem_of_getElem? (i := 4) rfl)) (fun _ h9 => h9) (fC_6_2 _ _) dX2_perform_136 ?_
    refine lv_iload_n hx hb dX2_perform_139 rfl (lv_at hl 1 rfl) ?_
    refine lv_iload hx hb dX2_perform_140 (lv_at hl 0 rfl) ?_
    obtain ⟨r_142, hg_142, hf⟩ := oc_e hf
    refine mV_ri (wd := wC ad cI cJ cZ) (σ := σ) (As := [.int r_5, .int r_14]) (rest := [.int v1, .ref (ad 6)]) ⟨hx, hb, hml, hown, hts⟩ hK hP hD hS (c_X1_chooseStatic l D ad cI cJ cZ σ r_5 r_14 hg_142) (cwV 2 hts gX2_perform_X1_chooseStatic rfl rfl rfl hd_X1_chooseStatic ⟨by show 1 + 1 ≤ R.frames; omega, by show 8 + (4 + 11) + (21) ≤ R.locals; omega⟩) rfl (wC_3 _ _ _ _ _) rfl hl.1 rfl (Nat.le_of_ble_eq_true rfl) dX2_perform_142 (fun H locs hP hS => ?_)
    refine lv_iload_n hx hb dX2_perform_145 rfl (lv_at hl 4 rfl) ?_
    obtain ⟨r_146, hg_146, hf⟩ := oc_e hf
    refine mV_wv (wd := wC ad cI cJ cZ) (σ := σ) (As := [.int v1, .int r_142, .int v2]) (rest := []) ⟨hx, hb, hml, hown, hts⟩ hK hP hD hS (c_X2_callStatic l D ad cI cJ cZ E hE σ v1 r_142 v2 hg_146) (cwV 3 hts gX2_perform_X2_callStatic rfl rfl rfl hd_X2_callStatic ⟨by show fE + 43 + 1 ≤ R.frames; omega, by show 8 + (4 + 11) + (nE + 1112) ≤ R.locals; omega⟩) rfl (wC_6 _ _ _ _ _) rfl hl.1 rfl (Nat.le_of_ble_eq_true rfl) dX2_perform_146 (fun H locs hP hS => ?_)
    refine lv_goto (tgt := 187) hx hb dX2_perform_149 (by decide) ?_
    exact w_X2_perform_187 hm hR hK hD E hE r_146 hf _ _ _ hP hS (lv_sub hl [] rfl)
  rw [if_neg c_27_3] at hf
  by_cases c_27_4 : r_24 = 4
  · rw [if_pos c_27_4] at hf
    refine lv_tableIn (off := 77) (tgt := 104) hx hb dX2_perform_27 (by rw [c_27_4]; decide) (by rw [c_27_4]; decide) (by rw [c_27_4]; rfl) (by decide) ?_
    exact w_X2_perform_104 hm hR hK hD E hE v1 v2 σ hf _ _ _ hP hS (lv_sub hl [2, 3, 4] rfl)
  rw [if_neg c_27_4] at hf
  by_cases c_27_5 : r_24 = 5
  · rw [if_pos c_27_5] at hf
    refine lv_tableIn (off := 125) (tgt := 152) hx hb dX2_perform_27 (by rw [c_27_5]; decide) (by rw [c_27_5]; decide) (by rw [c_27_5]; rfl) (by decide) ?_
    refine lv_aload_n hx hb dX2_perform_152 rfl (lv_at hl 2 rfl) ?_
    refine lv_iload_n hx hb dX2_perform_153 rfl (lv_at hl 1 rfl) ?_
    refine lv_iload hx hb dX2_perform_154 (lv_at hl 0 rfl) ?_
    obtain ⟨r_156, hg_156, hf⟩ := oc_e hf
    refine mV_wv (wd := wC ad cI cJ cZ) (σ := σ) (As := [.int r_5, .int r_14]) (rest := []) ⟨hx, hb, hml, hown, hts⟩ hK hP hD hS (c_X2_put l D ad cI cJ cZ σ r_5 r_14 hg_156) (cwV 2 hts gX2_perform_X2_put rfl rfl rfl hd_X2_put ⟨by show 0 + 1 ≤ R.frames; omega, by show 8 + (5 + 11) + (0) ≤ R.locals; omega⟩) rfl (wC_6 _ _ _ _ _) rfl hl.1 rfl (Nat.le_of_ble_eq_true rfl) dX2_perform_156 (fun H locs hP hS => ?_)
    refine lv_goto (tgt := 187) hx hb dX2_perform_159 (by decide) ?_
    exact w_X2_perform_187 hm hR hK hD E hE r_156 hf _ _ _ hP hS (lv_sub hl [] rfl)
  rw [if_neg c_27_5] at hf
  by_cases c_27_6 : r_24 = 6
  · rw [if_pos c_27_6] at hf
    refine lv_tableIn (off := 135) (tgt := 162) hx hb dX2_perform_27 (by rw [c_27_6]; decide) (by rw [c_27_6]; decide) (by rw [c_27_6]; rfl) (by decide) ?_
    refine lv_aload_n hx hb dX2_perform_162 rfl (lv_at hl 2 rfl) ?_
    refine lv_iload_n hx hb dX2_perform_163 rfl (lv_at hl 3 rfl) ?_
    refine lv_iload_n hx hb dX2_perform_164 rfl (lv_at hl 1 rfl) ?_
    refine lv_iload_n hx hb dX2_perform_165 rfl (lv_at hl 4 rfl) ?_
    obtain ⟨r_166, hg_166, hf⟩ := oc_e hf
    refine mV_wv (wd := wC ad cI cJ cZ) (σ := σ) (As := [.int v1, .int r_5, .int v2]) (rest := []) ⟨hx, hb, hml, hown, hts⟩ hK hP hD hS (c_X2_callBagged l D ad cI cJ cZ E hE σ v1 r_5 v2 hg_166) (cwV 3 hts gX2_perform_X2_callBagged rfl rfl rfl hd_X2_callBagged ⟨by show fE + 2 + 1 ≤ R.frames; omega, by show 8 + (4 + 11) + (nE + 46) ≤ R.locals; omega⟩) rfl (wC_6 _ _ _ _ _) rfl hl.1 rfl (Nat.le_of_ble_eq_true rfl) dX2_perform_166 (fun H locs hP hS => ?_)
    refine lv_goto (tgt := 187) hx hb dX2_perform_169 (by decide) ?_
    exact w_X2_perform_187 hm hR hK hD E hE r_166 hf _ _ _ hP hS (lv_sub hl [] rfl)
  rw [if_neg c_27_6] at hf
  refine lv_tableOut (tgt := 172) hx hb dX2_perform_27 (by have g0 := lv_neT c_27_0 (a := 0) (by decide); have g1 := lv_neT c_27_1 (a := 1) (by decide); have g2 := lv_neT c_27_2 (a := 2) (by decide); have g3 := lv_neT c_27_3 (a := 3) (by decide); have g4 := lv_neT c_27_4 (a := 4) (by decide); have g5 := lv_neT c_27_5 (a := 5) (by decide); have g6 := lv_neT c_27_6 (a := 6) (by decide); omega) (by decide) ?_
  refine lv_aload_n hx hb dX2_perform_172 rfl (lv_at hl 2 rfl) ?_
  refine lv_iload_n hx hb dX2_perform_173 rfl (lv_at hl 3 rfl) ?_
  refine lv_aload_n hx hb dX2_perform_174 rfl (lv_at hl 2 rfl) ?_
  refine va_get (D := D) (ci := 1) (v := .ref (ad 2)) (C := RX2) (T := TX2) (N := 15) hx hb hts in_X2_perform_X2 hown hK hP 6 (wC_6 _ _ _ _ _) rfl 1 (by decide) (hts (.fieldLink RX2 29 "CallGraphs$DrawnRun" "members" "LCallGraphs$Members;") (List.mem_of_getElem? (i := 5) rfl)) (fun _ h9 => h9) (fC_6_1 _ _) dX2_perform_175 ?_
  refine lv_iload hx hb dX2_perform_178 (lv_at hl 0 rfl) ?_
  obtain ⟨r_180, hg_180, hf⟩ := oc_e hf
  refine mV_rl (wd := wC ad cI cJ cZ) (σ := σ) (As := [.int r_14]) (rest := [.int v1, .ref (ad 6)]) ⟨hx, hb, hml, hown, hts⟩ hK hP hD hS (c_X4_handlesOf l D ad cI cJ cZ σ r_14 hg_180) (cwV 1 hts gX2_perform_X4_handlesOf rfl rfl rfl hd_X4_handlesOf ⟨by show 0 + 1 ≤ R.frames; omega, by show 8 + (2 + 11) + (0) ≤ R.locals; omega⟩) rfl (wC_2 _ _ _ _ _) rfl hl.1 rfl (Nat.le_of_ble_eq_true rfl) dX2_perform_180 (fun H locs hP hS => ?_)
  refine lv_iload_n hx hb dX2_perform_183 rfl (lv_at hl 4 rfl) ?_
  obtain ⟨r_184, hg_184, hf⟩ := oc_e hf
  refine mV_wv (wd := wC ad cI cJ cZ) (σ := σ) (As := [.int v1, .long r_180, .int v2]) (rest := []) ⟨hx, hb, hml, hown, hts⟩ hK hP hD hS (c_X2_callAny l D ad cI cJ cZ E hE σ v1 r_180 v2 hg_184) (cwV 3 hts gX2_perform_X2_callAny rfl rfl rfl hd_X2_callAny ⟨by show fE + 2 + 1 ≤ R.frames; omega, by show 8 + (5 + 11) + (nE + 46) ≤ R.locals; omega⟩) rfl (wC_6 _ _ _ _ _) rfl hl.1 rfl (Nat.le_of_ble_eq_true rfl) dX2_perform_184 (fun H locs hP hS => ?_)
  exact w_X2_perform_187 hm hR hK hD E hE r_184 hf _ _ _ hP hS (lv_sub hl [] rfl)
theorem hd_X2_perform : yX2_perform.cls = RX2 ∧ yX2_perform.cls ≠ "java/lang/invoke/MethodHandle" ∧ yX2_perform.cls ≠ "java/lang/invoke/VarHandle" ∧ (parseMethodDescriptor yX2_perform.desc).map (fun d => d.parameters.length) = some 2 := by decide +kernel
set_option maxHeartbeats 4000000 in
set_option maxRecDepth 100000 in
theorem c_X2_perform (l : Launch) (D : va_G) (ad : Nat → Nat) (cI cJ cZ : ClassId) {fE nE : Nat} (E : Int32 → Int32 → SS → Option SS) (hE : ∀ (v1 v2 : Int32) (σ : SS) {res : SS}, E v1 v2 σ = some res → Met l yX2_enter wsX2_enter ({ frames := fE, cells := 0, slots := 0, locals := nE } : Room) (PW D (tyw cI cJ cZ) (wC ad cI cJ cZ σ) [.ref (ad 6), .int v1, .int v2]) (va_Qv (fun (u : SS) => u = res) (fun u t => va_P D vwCl (wC ad cI cJ cZ u) t.heap) (aC ad)) 0 0 (aC ad)) (σ : SS) (v1 : Int32) (v2 : Int32) {res : SS} (hf : p_X2_perform_0 E v1 v2 σ = some res) : Met l yX2_perform wsX2_perform ({ frames := fE + 44, cells := 0, slots := 0, locals := nE + 1135 } : Room) (PW D (tyw cI cJ cZ) (wC ad cI cJ cZ σ) [.ref (ad 6), .int v1, .int v2]) (va_Qv (fun (u : SS) => u = res) (fun u t => va_P D vwCl (wC ad cI cJ cZ u) t.heap) (aC ad)) 0 0 (aC ad) := by
  refine Met.ofW (cc := cX2_perform) (maxL := 5) (ret := none) (by decide) rfl ?_
  intro p e s m args below meth c s₁ B9 hml hv
  obtain ⟨rfl, hP, hK, hD0⟩ := hv
  have hD : ∀ σ, va_D (aC ad) (wC ad cI cJ cZ σ) := fun σ => wd_D hD0 (wC_map _ _ _ _ _) (wC_map _ _ _ _ _)
  have hm : mx p s m _ meth c cX2_perform 5 none wsX2_perform RX2 := ⟨B9.exec, B9.bytes, B9.returns, hml, findClass_of_methodNamed B9.named, atoms_spec (ws := wsX2_perform) B9.pre, B9.notSynchronized⟩
  have hl := lv_entry ([.ref (ad 6), .int v1, .int v2]) (n := 5) (Nat.le_of_ble_eq_true rfl)
  rw [lg_entry_eq]
  generalize (lg_sl ([.ref (ad 6), .int v1, .int v2]) ++ List.replicate (5 - (lg_sl ([.ref (ad 6), .int v1, .int v2])).length) Slot.unset).toArray = ls at hl ⊢
  exact w_X2_perform_0 hm ⟨Nat.le_refl _, Nat.le_refl _⟩ hK hD E hE v1 v2 σ hf _ _ _ hP va_S.rf hl
/-! CallGraphs$DrawnRun.enter(II)V -/
theorem in_X2_enter_X2 : ∀ w ∈ u_ws RX2 TX2 15, w ∈ wsX2_enter := fun w h => List.mem_cons_of_mem _ (List.mem_append_left _ (List.mem_append_left _ (List.mem_append_left _ (List.mem_append_left _ (List.mem_append_right _ h)))))
def p_X2_enter_16 (E : Int32 → Int32 → SS → Option SS) (σ : SS) : Option (SS) := os (sI σ 6 13 ((σ.1 6 13) + 1)) (fun s_23 => some s_23)
set_option maxHeartbeats 4000000 in
set_option maxRecDepth 100000 in
theorem w_X2_enter_16 {p : Program} {l : Launch} {e : Env} {R : Room} {s : State} {m : MethodId} {args : Array Value} {below : List Frame} {meth : Method} {c : Code} {D : va_G} {ad : Nat → Nat} {cI cJ cZ : ClassId} {fE nE : Nat} {res : SS} (hm : mx p s m args meth c cX2_enter 4 none wsX2_enter RX2) (hR : fE + 45 ≤ R.frames ∧ nE + 1159 ≤ R.locals) (hK : va_K D vwCl (tyw cI cJ cZ) s) (hD : ∀ σ, va_D (aC ad) (wC ad cI cJ cZ σ)) (E : Int32 → Int32 → SS → Option SS) (hE : ∀ (v1 v2 : Int32) (σ : SS) {res : SS}, E v1 v2 σ = some res → Met l yX2_enter wsX2_enter ({ frames := fE, cells := 0, slots := 0, locals := nE } : Room) (PW D (tyw cI cJ cZ) (wC ad cI cJ cZ σ) [.ref (ad 6), .int v1, .int v2]) (va_Qv (fun (u : SS) => u = res) (fun u t => va_P D vwCl (wC ad cI cJ cZ u) t.heap) (aC ad)) 0 0 (aC ad)) (σ : SS) (hf : p_X2_enter_16 E σ = some res) (H : Heap) (locs : List Loc) (ls : Array Slot) (hP : va_P D vwCl (wC ad cI cJ cZ σ) H) (hS : va_S (aC ad) s.heap H locs) (hl : lv_has ls 4 [(0, .ref (ad 6))]) : W p l e R s m args below meth c H locs 0 0 (MQ below (va_Qv (fun (u : SS) => u = res) (fun u t => va_P D vwCl (wC ad cI cJ cZ u) t.heap) (aC ad)) args s 0 0 (aC ad)) (F0 m 16 ls []) := by
  obtain ⟨hx, hb, hr, hml, hown, hts, hlk⟩ := id hm
  obtain ⟨hR1, hR2⟩ := id hR
  unfold p_X2_enter_16 at hf
  refine lv_aload_n hx hb dX2_enter_16 rfl (lv_at hl 0 rfl) ?_
  refine lv_dup hx hb dX2_enter_17 rfl ?_
  refine va_get (D := D) (ci := 1) (v := .int (σ.1 6 13)) (C := RX2) (T := TX2) (N := 15) hx hb hts in_X2_enter_X2 hown hK hP 6 (wC_6 _ _ _ _ _) rfl 13 (by decide) (hts (.fieldLink RX2 55 "CallGraphs$DrawnRun" "left" "I") (List.mem_of_getElem? (i := 2) rfl)) (fun _ h9 => h9) (fC_6_13 _ _) dX2_enter_18 ?_
  refine lv_iconst (v := 1) hx hb dX2_enter_21 (by decide) ?_
  refine lv_iadd hx hb dX2_enter_22 ?_
  refine va_put (D := D) (ci := 1) (v := .int ((σ.1 6 13) + 1)) (ty := .int) (C := RX2) (T := TX2) (N := 15) hx hb hts in_X2_enter_X2 tyX2 tyX2_ok nmX2 hown hK hP (hD _) hS 6 (wC_6 _ _ _ _ _) rfl 13 (by decide) (hts (.fieldLink RX2 55 "CallGraphs$DrawnRun" "left" "I") (List.mem_of_getElem? (i := 2) rfl)) (fun _ h9 => h9) rfl (tyX2_ok 13 (by decide)) rfl rfl (Nat.le_of_ble_eq_true rfl) dX2_enter_23 (fun H locs hP _ hS => ?_)
  have hP := wC_p6_13 hP
  obtain ⟨s_23, es_23, hf⟩ := os_e hf
  rw [← es_23] at hP
  exact rt_v (wd := wC ad cI cJ cZ) hx hb hr hlk (Option.some.inj hf) hP hS dX2_enter_26
def p_X2_enter_92 (E : Int32 → Int32 → SS → Option SS) (k56 : Int32 → Int32 → Int32 → SS → Option (SS)) (v1 : Int32) (v2 : Int32) (v3 : Int32) (σ : SS) : Option (SS) := k56 v1 v2 (v3 + 1) σ
set_option maxHeartbeats 4000000 in
set_option maxRecDepth 100000 in
theorem w_X2_enter_92 {p : Program} {l : Launch} {e : Env} {R : Room} {s : State} {m : MethodId} {args : Array Value} {below : List Frame} {meth : Method} {c : Code} {D : va_G} {ad : Nat → Nat} {cI cJ cZ : ClassId} {fE nE : Nat} {res : SS} (hm : mx p s m args meth c cX2_enter 4 none wsX2_enter RX2) (hR : fE + 45 ≤ R.frames ∧ nE + 1159 ≤ R.locals) (hK : va_K D vwCl (tyw cI cJ cZ) s) (hD : ∀ σ, va_D (aC ad) (wC ad cI cJ cZ σ)) (E : Int32 → Int32 → SS → Option SS) (hE : ∀ (v1 v2 : Int32) (σ : SS) {res : SS}, E v1 v2 σ = some res → Met l yX2_enter wsX2_enter ({ frames := fE, cells := 0, slots := 0, locals := nE } : Room) (PW D (tyw cI cJ cZ) (wC ad cI cJ cZ σ) [.ref (ad 6), .int v1, .int v2]) (va_Qv (fun (u : SS) => u = res) (fun u t => va_P D vwCl (wC ad cI cJ cZ u) t.heap) (aC ad)) 0 0 (aC ad)) (k56 : Int32 → Int32 → Int32 → SS → Option (SS)) (hk56 : ∀ (v1 : Int32) (v2 : Int32) (v3 : Int32) (σ : SS), k56 v1 v2 v3 σ = some res → ∀ (H : Heap) (locs : List Loc) (ls : Array Slot), va_P D vwCl (wC ad cI cJ cZ σ) H → va_S (aC ad) s.heap H locs → lv_has ls 4 [(0, .ref (ad 6)), (1, .int v1), (2, .int v2), (3, .int v3)] → W p l e R s m args below meth c H locs 0 0 (MQ below (va_Qv (fun (u : SS) => u = res) (fun u t => va_P D vwCl (wC ad cI cJ cZ u) t.heap) (aC ad)) args s 0 0 (aC ad)) (F0 m 56 ls [])) (v1 : Int32) (v2 : Int32) (v3 : Int32) (σ : SS) (hf : p_X2_enter_92 E k56 v1 v2 v3 σ = some res) (H : Heap) (locs : List Loc) (ls : Array Slot) (hP : va_P D vwCl (wC ad cI cJ cZ σ) H) (hS : va_S (aC ad) s.heap H locs) (hl : lv_has ls 4 [(0, .ref (ad 6)), (1, .int v1), (2, .int v2), (3, .int v3)]) : W p l e R s m args below meth c H locs 0 0 (MQ below (va_Qv (fun (u : SS) => u = res) (fun u t => va_P D vwCl (wC ad cI cJ cZ u) t.heap) (aC ad)) args s 0 0 (aC ad)) (F0 m 92 ls []) := by
  obtain ⟨hx, hb, hr, hml, hown, hts, hlk⟩ := id hm
  obtain ⟨hR1, hR2⟩ := id hR
  unfold p_X2_enter_92 at hf
  refine lv_iinc (v := (v3 + 1)) (lv' := [(3, .int (v3 + 1)), (0, .ref (ad 6)), (1, .int v1), (2, .int v2)]) hx hb dX2_enter_92 hl (k := 3) rfl rfl (by decide) rfl (fun ls hl => ?_)
  refine lv_goto (tgt := 56) hx hb dX2_enter_95 (by decide) ?_
  exact hk56 v1 v2 (v3 + 1) σ hf _ _ _ hP hS (lv_sub hl [1, 2, 3, 0] rfl)
def p_X2_enter_56 (E : Int32 → Int32 → SS → Option SS) : Nat → Int32 → Int32 → Int32 → SS → Option (SS)
  | 0, _, _, _, _ => none
  | n + 1, v1, v2, v3, σ => let k56 := p_X2_enter_56 E n; oc (p_X5_sizeOf_0 σ v1) (fun r_62 => if r_62 ≤ v3 then some σ else oc (p_X2_draw_0 4 σ) (fun r_70 => if r_70.1 = 0 then p_X2_enter_92 E k56 v1 v2 v3 r_70.2 else oc (p_X5_at_0 r_70.2 v1 v3) (fun r_83 => oc (p_X2_perform_0 E r_83 (v2 + 1) r_70.2) (fun r_89 => p_X2_enter_92 E k56 v1 v2 v3 r_89))))
set_option maxHeartbeats 4000000 in
set_option maxRecDepth 100000 in
theorem w_X2_enter_56 {p : Program} {l : Launch} {e : Env} {R : Room} {s : State} {m : MethodId} {args : Array Value} {below : List Frame} {meth : Method} {c : Code} {D : va_G} {ad : Nat → Nat} {cI cJ cZ : ClassId} {fE nE : Nat} {res : SS} (hm : mx p s m args meth c cX2_enter 4 none wsX2_enter RX2) (hR : fE + 45 ≤ R.frames ∧ nE + 1159 ≤ R.locals) (hK : va_K D vwCl (tyw cI cJ cZ) s) (hD : ∀ σ, va_D (aC ad) (wC ad cI cJ cZ σ)) (E : Int32 → Int32 → SS → Option SS) (hE : ∀ (v1 v2 : Int32) (σ : SS) {res : SS}, E v1 v2 σ = some res → Met l yX2_enter wsX2_enter ({ frames := fE, cells := 0, slots := 0, locals := nE } : Room) (PW D (tyw cI cJ cZ) (wC ad cI cJ cZ σ) [.ref (ad 6), .int v1, .int v2]) (va_Qv (fun (u : SS) => u = res) (fun u t => va_P D vwCl (wC ad cI cJ cZ u) t.heap) (aC ad)) 0 0 (aC ad)) : ∀ (n : Nat) (v1 : Int32) (v2 : Int32) (v3 : Int32) (σ : SS), p_X2_enter_56 E n v1 v2 v3 σ = some res → ∀ (H : Heap) (locs : List Loc) (ls : Array Slot), va_P D vwCl (wC ad cI cJ cZ σ) H → va_S (aC ad) s.heap H locs → lv_has ls 4 [(0, .ref (ad 6)), (1, .int v1), (2, .int v2), (3, .int v3)] → W p l e R s m args below meth c H locs 0 0 (MQ below (va_Qv (fun (u : SS) => u = res) (fun u t => va_P D vwCl (wC ad cI cJ cZ u) t.heap) (aC ad)) args s 0 0 (aC ad)) (F0 m 56 ls []) := by
  obtain ⟨hx, hb, hr, hml, hown, hts, hlk⟩ := id hm
  obtain ⟨hR1, hR2⟩ := id hR
  intro n
  induction n with
  | zero =>
    intro _ _ _ _ hf
    cases hf
  | succ n hk56 =>
    intro v1 v2 v3 σ hf H locs ls hP hS hl
    rw [p_X2_enter_56] at hf
    try dsimp only at hf
    refine lv_iload_n hx hb dX2_enter_56 rfl (lv_at hl 3 rfl) ?_
    refine lv_aload_n hx hb dX2_enter_57 rfl (lv_at hl 0 rfl) ?_
    refine va_get (D := D) (ci := 1) (v := .ref (ad 4)) (C := RX2) (T := TX2) (N := 15) hx hb hts in_X2_enter_X2 hown hK hP 6 (wC_6 _ _ _ _ _) rfl 3 (by decide) (hts (.fieldLink RX2 37 "CallGraphs$DrawnRun" "ops" "LCallGraphs$Ops;") (List.mem_of_getElem? (i := 5) rfl)) (fun _ h9 => h9) (fC_6_3 _ _) dX2_enter_58 ?_
    refine lv_iload_n hx hb dX2_enter_61 rfl (lv_at hl 1 rfl) ?_
    obtain ⟨r_62, hg_62, hf⟩ := oc_e hf
    refine mV_ri (wd := wC ad cI cJ cZ) (σ := σ) (As := [.int v1]) (rest := [.int v3]) ⟨hx, hb, hml, hown, hts⟩ hK hP hD hS (c_X5_sizeOf l D ad cI cJ cZ σ v1 hg_62) (cwV 1 hts gX2_enter_X5_sizeOf rfl rfl rfl hd_X5_sizeOf ⟨by show 0 + 1 ≤ R.frames; omega, by show 8 + (2 + 11) + (0) ≤ R.locals; omega⟩) rfl (wC_4 _ _ _ _ _) rfl hl.1 rfl (Nat.le_of_ble_eq_true rfl) dX2_enter_62 (fun H locs hP hS => ?_)
    refine lv_icmp_ge (tgt := 98) hx hb dX2_enter_65 (by decide) (fun c_65 => ?_) (fun c_65 => ?_)
    · rw [if_pos c_65] at hf
      exact rt_v (wd := wC ad cI cJ cZ) hx hb hr hlk (Option.some.inj hf) hP hS dX2_enter_98
    · rw [if_neg c_65] at hf
      refine lv_aload_n hx hb dX2_enter_68 rfl (lv_at hl 0 rfl) ?_
      refine lv_iconst (v := 4) hx hb dX2_enter_69 (by decide) ?_
      obtain ⟨r_70, hg_70, hf⟩ := oc_e hf
      refine mV_wi (wd := wC ad cI cJ cZ) (σ := σ) (As := [.int 4]) (rest := []) ⟨hx, hb, hml, hown, hts⟩ hK hP hD hS (c_X2_draw l D ad cI cJ cZ σ 4 hg_70) (cwV 1 hts gX2_enter_X2_draw rfl rfl rfl hd_X2_draw ⟨by show 0 + 1 ≤ R.frames; omega, by show 8 + (2 + 11) + (0) ≤ R.locals; omega⟩) rfl (wC_6 _ _ _ _ _) rfl hl.1 rfl (Nat.le_of_ble_eq_true rfl) dX2_enter_70 (fun H locs hP hS => ?_)
      refine lv_if_eq (tgt := 92) hx hb dX2_enter_73 (by decide) (fun c_73 => ?_) (fun c_73 => ?_)
      · rw [if_pos c_73] at hf
        exact w_X2_enter_92 hm hR hK hD E hE (p_X2_enter_56 E n) hk56 v1 v2 v3 r_70.2 hf _ _ _ hP hS (lv_sub hl [0, 1, 2, 3] rfl)
      · rw [if_neg c_73] at hf
        refine lv_aload_n hx hb dX2_enter_76 rfl (lv_at hl 0 rfl) ?_
        refine lv_aload_n hx hb dX2_enter_77 rfl (lv_at hl 0 rfl) ?_
        refine va_get (D := D) (ci := 1) (v := .ref (ad 4)) (C := RX2) (T := TX2) (N := 15) hx hb hts in_X2_enter_X2 hown hK hP 6 (wC_6 _ _ _ _ _) rfl 3 (by decide) (hts (.fieldLink RX2 37 "CallGraphs$DrawnRun" "ops" "LCallGraphs$Ops;") (List.mem_of_getElem? (i := 5) rfl)) (fun _ h9 => h9) (fC_6_3 _ _) dX2_enter_78 ?_
        refine lv_iload_n hx hb dX2_enter_81 rfl (lv_at hl 1 rfl) ?_
        refine lv_iload_n hx hb dX2_enter_82 rfl (lv_at hl 3 rfl) ?_
        obtain ⟨r_83, hg_83, hf⟩ := oc_e hf
        refine mV_ri (wd := wC ad cI cJ cZ) (σ := r_70.2) (As := [.int v1, .int v3]) (rest := [.ref (ad 6)]) ⟨hx, hb, hml, hown, hts⟩ hK hP hD hS (c_X5_at l D ad cI cJ cZ r_70.2 v1 v3 hg_83) (cwV 2 hts gX2_enter_X5_at rfl rfl rfl hd_X5_at ⟨by show 0 + 1 ≤ R.frames; omega, by show 8 + (3 + 11) + (0) ≤ R.locals; omega⟩) rfl (wC_4 _ _ _ _ _) rfl hl.1 rfl (Nat.le_of_ble_eq_true rfl) dX2_enter_83 (fun H locs hP hS => ?_)
        refine lv_iload_n hx hb dX2_enter_86 rfl (lv_at hl 2 rfl) ?_
        refine lv_iconst (v := 1) hx hb dX2_enter_87 (by decide) ?_
        refine lv_iadd hx hb dX2_enter_88 ?_
        obtain ⟨r_89, hg_89, hf⟩ := oc_e hf
        refine mV_wv (wd := wC ad cI cJ cZ) (σ := r_70.2) (As := [.int r_83, .int (v2 + 1)]) (rest := []) ⟨hx, hb, hml, hown, hts⟩ hK hP hD hS (c_X2_perform l D ad cI cJ cZ E hE r_70.2 r_83 (v2 + 1) hg_89) (cwV 2 hts gX2_enter_X2_perform rfl rfl rfl hd_X2_perform ⟨by show fE + 44 + 1 ≤ R.frames; omega, by show 8 + (5 + 11) + (nE + 1135) ≤ R.locals; omega⟩) rfl (wC_6 _ _ _ _ _) rfl hl.1 rfl (Nat.le_of_ble_eq_true rfl) dX2_enter_89 (fun H locs hP hS => ?_)
        exact w_X2_enter_92 hm hR hK hD E hE (p_X2_enter_56 E n) hk56 v1 v2 v3 r_89 hf _ _ _ hP hS (lv_sub hl [0, 1, 2, 3] rfl)
def p_X2_enter_0 (E : Int32 → Int32 → SS → Option SS) (v1 : Int32) (v2 : Int32) (σ : SS) : Option (SS) := if 12 ≤ v2 then p_X2_enter_16 E σ else if (σ.1 6 12) < 300 then os (sI σ 6 12 ((σ.1 6 12) + 1)) (fun s_34 => oc (p_X0_with_0 (s_34.2 6 9) v1) (fun r_43 => os (sL s_34 6 9 r_43) (fun s_46 => os (sI s_46 6 14 v1) (fun s_51 => p_X2_enter_56 E 100000 v1 v2 0 s_51)))) else p_X2_enter_16 E σ
set_option maxHeartbeats 4000000 in
set_option maxRecDepth 100000 in
theorem w_X2_enter_0 {p : Program} {l : Launch} {e : Env} {R : Room} {s : State} {m : MethodId} {args : Array Value} {below : List Frame} {meth : Method} {c : Code} {D : va_G} {ad : Nat → Nat} {cI cJ cZ : ClassId} {fE nE : Nat} {res : SS} (hm : mx p s m args meth c cX2_enter 4 none wsX2_enter RX2) (hR : fE + 45 ≤ R.frames ∧ nE + 1159 ≤ R.locals) (hK : va_K D vwCl (tyw cI cJ cZ) s) (hD : ∀ σ, va_D (aC ad) (wC ad cI cJ cZ σ)) (E : Int32 → Int32 → SS → Option SS) (hE : ∀ (v1 v2 : Int32) (σ : SS) {res : SS}, E v1 v2 σ = some res → Met l yX2_enter wsX2_enter ({ frames := fE, cells := 0, slots := 0, locals := nE } : Room) (PW D (tyw cI cJ cZ) (wC ad cI cJ cZ σ) [.ref (ad 6), .int v1, .int v2]) (va_Qv (fun (u : SS) => u = res) (fun u t => va_P D vwCl (wC ad cI cJ cZ u) t.heap) (aC ad)) 0 0 (aC ad)) (v1 : Int32) (v2 : Int32) (σ : SS) (hf : p_X2_enter_0 E v1 v2 σ = some res) (H : Heap) (locs : List Loc) (ls : Array Slot) (hP : va_P D vwCl (wC ad cI cJ cZ σ) H) (hS : va_S (aC ad) s.heap H locs) (hl : lv_has ls 4 [(0, .ref (ad 6)), (1, .int v1), (2, .int v2)]) : W p l e R s m args below meth c H locs 0 0 (MQ below (va_Qv (fun (u : SS) => u = res) (fun u t => va_P D vwCl (wC ad cI cJ cZ u) t.heap) (aC ad)) args s 0 0 (aC ad)) (F0 m 0 ls []) := by
  obtain ⟨hx, hb, hr, hml, hown, hts, hlk⟩ := id hm
  obtain ⟨hR1, hR2⟩ := id hR
  unfold p_X2_enter_0 at hf
  refine lv_iload_n hx hb dX2_enter_0 rfl (lv_at hl 2 rfl) ?_
  refine lv_bipush (v := 12) hx hb dX2_enter_1 (by decide) ?_
  refine lv_icmp_ge (tgt := 16) hx hb dX2_enter_3 (by decide) (fun c_3 => ?_) (fun c_3 => ?_)
  · rw [if_pos c_3] at hf
    exact w_X2_enter_16 hm hR hK hD E hE σ hf _ _ _ hP hS (lv_sub hl [0] rfl)
  · rw [if_neg c_3] at hf
    refine lv_aload_n hx hb dX2_enter_6 rfl (lv_at hl 0 rfl) ?_
    refine va_get (D := D) (ci := 1) (v := .int (σ.1 6 12)) (C := RX2) (T := TX2) (N := 15) hx hb hts in_X2_enter_X2 hown hK hP 6 (wC_6 _ _ _ _ _) rfl 12 (by decide) (hts (.fieldLink RX2 41 "CallGraphs$DrawnRun" "steps" "I") (List.mem_of_getElem? (i := 1) rfl)) (fun _ h9 => h9) (fC_6_12 _ _) dX2_enter_7 ?_
    refine lv_sipush (v := 300) hx hb dX2_enter_10 (by decide) ?_
    refine lv_icmp_lt (tgt := 27) hx hb dX2_enter_13 (by decide) (fun c_13 => ?_) (fun c_13 => ?_)
    · rw [if_pos c_13] at hf
      refine lv_aload_n hx hb dX2_enter_27 rfl (lv_at hl 0 rfl) ?_
      refine lv_dup hx hb dX2_enter_28 rfl ?_
      refine va_get (D := D) (ci := 1) (v := .int (σ.1 6 12)) (C := RX2) (T := TX2) (N := 15) hx hb hts in_X2_enter_X2 hown hK hP 6 (wC_6 _ _ _ _ _) rfl 12 (by decide) (hts (.fieldLink RX2 41 "CallGraphs$DrawnRun" "steps" "I") (List.mem_of_getElem? (i := 1) rfl)) (fun _ h9 => h9) (fC_6_12 _ _) dX2_enter_29 ?_
      refine lv_iconst (v := 1) hx hb dX2_enter_32 (by decide) ?_
      refine lv_iadd hx hb dX2_enter_33 ?_
      refine va_put (D := D) (ci := 1) (v := .int ((σ.1 6 12) + 1)) (ty := .int) (C := RX2) (T := TX2) (N := 15) hx hb hts in_X2_enter_X2 tyX2 tyX2_ok nmX2 hown hK hP (hD _) hS 6 (wC_6 _ _ _ _ _) rfl 12 (by decide) (hts (.fieldLink RX2 41 "CallGraphs$DrawnRun" "steps" "I") (List.mem_of_getElem? (i := 1) rfl)) (fun _ h9 => h9) rfl (tyX2_ok 12 (by decide)) rfl rfl (Nat.le_of_ble_eq_true rfl) dX2_enter_34 (fun H locs hP _ hS => ?_)
      have hP := wC_p6_12 hP
      obtain ⟨s_34, es_34, hf⟩ := os_e hf
      rw [← es_34] at hP
      refine lv_aload_n hx hb dX2_enter_37 rfl (lv_at hl 0 rfl) ?_
      refine lv_aload_n hx hb dX2_enter_38 rfl (lv_at hl 0 rfl) ?_
      refine va_get (D := D) (ci := 1) (v := .long (s_34.2 6 9)) (C := RX2) (T := TX2) (N := 15) hx hb hts in_X2_enter_X2 hown hK hP 6 (wC_6 _ _ _ _ _) rfl 9 (by decide) (hts (.fieldLink RX2 45 "CallGraphs$DrawnRun" "ran" "J") (List.mem_of_getElem? (i := 3) rfl)) (fun _ h9 => h9) (fC_6_9 _ _) dX2_enter_39 ?_
      refine lv_iload_n hx hb dX2_enter_42 rfl (lv_at hl 1 rfl) ?_
      obtain ⟨r_43, hg_43, hf⟩ := oc_e hf
      refine mS_l (D := D) (As := [.long (s_34.2 6 9), .int v1]) (rest := [.ref (ad 6)]) ⟨hx, hb, hml, hown, hts⟩ hP hS (c_X0_with l (s_34.2 6 9) v1 hg_43) (va_cwS 2 hts gX2_enter_X0_with rfl rfl rfl hd_X0_with ⟨by show 0 + 1 ≤ R.frames; omega, by show 8 + (3 + 11) + (0) ≤ R.locals; omega⟩) rfl hl.1 rfl (Nat.le_of_ble_eq_true rfl) dX2_enter_43 (fun H locs hP hS => ?_)
      refine va_put (D := D) (ci := 1) (v := .long r_43) (ty := .long) (C := RX2) (T := TX2) (N := 15) hx hb hts in_X2_enter_X2 tyX2 tyX2_ok nmX2 hown hK hP (hD _) hS 6 (wC_6 _ _ _ _ _) rfl 9 (by decide) (hts (.fieldLink RX2 45 "CallGraphs$DrawnRun" "ran" "J") (List.mem_of_getElem? (i := 3) rfl)) (fun _ h9 => h9) rfl (tyX2_ok 9 (by decide)) rfl rfl (Nat.le_of_ble_eq_true rfl) dX2_enter_46 (fun H locs hP _ hS => ?_)
      have hP := wC_p6_9 hP
      obtain ⟨s_46, es_46, hf⟩ := os_e hf
      rw [← es_46] at hP
      refine lv_aload_n hx hb dX2_enter_49 rfl (lv_at hl 0 rfl) ?_
      refine lv_iload_n hx hb dX2_enter_50 rfl (lv_at hl 1 rfl) ?_
      refine va_put (D := D) (ci := 1) (v := .int v1) (ty := .int) (C := RX2) (T := TX2) (N := 15) hx hb hts in_X2_enter_X2 tyX2 tyX2_ok nmX2 hown hK hP (hD _) hS 6 (wC_6 _ _ _ _ _) rfl 14 (by decide) (hts (.fieldLink RX2 58 "CallGraphs$DrawnRun" "latest" "I") (List.mem_of_getElem? (i := 4) rfl)) (fun _ h9 => h9) rfl (tyX2_ok 14 (by decide)) rfl rfl (Nat.le_of_ble_eq_true rfl) dX2_enter_51 (fun H locs hP _ hS => ?_)
      have hP := wC_p6_14 hP
      obtain ⟨s_51, es_51, hf⟩ := os_e hf
      rw [← es_51] at hP
      refine lv_iconst (v := 0) hx hb dX2_enter_54 (by decide) ?_
      refine lv_istore_n (lv' := [(3, .int 0), (0, .ref (ad 6)), (1, .int v1), (2, .int v2)]) hx hb dX2_enter_55 rfl hl (by decide) rfl (fun ls hl => ?_)
      exact w_X2_enter_56 hm hR hK hD E hE 100000 v1 v2 0 s_51 hf _ _ _ hP hS (lv_sub hl [1, 2, 3, 0] rfl)
    · rw [if_neg c_13] at hf
      exact w_X2_enter_16 hm hR hK hD E hE σ hf _ _ _ hP hS (lv_sub hl [0] rfl)

set_option maxHeartbeats 4000000 in
set_option maxRecDepth 100000 in
theorem co_X2_enter (l : Launch) (D : va_G) (ad : Nat → Nat) (cI cJ cZ : ClassId) {fE nE : Nat} (E : Int32 → Int32 → SS → Option SS) (hE : ∀ (v1 v2 : Int32) (σ : SS) {res : SS}, E v1 v2 σ = some res → Met l yX2_enter wsX2_enter ({ frames := fE, cells := 0, slots := 0, locals := nE } : Room) (PW D (tyw cI cJ cZ) (wC ad cI cJ cZ σ) [.ref (ad 6), .int v1, .int v2]) (va_Qv (fun (u : SS) => u = res) (fun u t => va_P D vwCl (wC ad cI cJ cZ u) t.heap) (aC ad)) 0 0 (aC ad)) (σ : SS) (v1 : Int32) (v2 : Int32) {res : SS} (hf : p_X2_enter_0 E v1 v2 σ = some res) : Met l yX2_enter wsX2_enter ({ frames := fE + 45, cells := 0, slots := 0, locals := nE + 1159 } : Room) (PW D (tyw cI cJ cZ) (wC ad cI cJ cZ σ) [.ref (ad 6), .int v1, .int v2]) (va_Qv (fun (u : SS) => u = res) (fun u t => va_P D vwCl (wC ad cI cJ cZ u) t.heap) (aC ad)) 0 0 (aC ad) := by
  refine Met.ofW (cc := cX2_enter) (maxL := 4) (ret := none) (by decide) rfl ?_
  intro p e s m args below meth c s₁ B9 hml hv
  obtain ⟨rfl, hP, hK, hD0⟩ := hv
  have hD : ∀ σ, va_D (aC ad) (wC ad cI cJ cZ σ) := fun σ => wd_D hD0 (wC_map _ _ _ _ _) (wC_map _ _ _ _ _)
  have hm : mx p s m _ meth c cX2_enter 4 none wsX2_enter RX2 := ⟨B9.exec, B9.bytes, B9.returns, hml, findClass_of_methodNamed B9.named, atoms_spec (ws := wsX2_enter) B9.pre, B9.notSynchronized⟩
  have hl := lv_entry ([.ref (ad 6), .int v1, .int v2]) (n := 4) (Nat.le_of_ble_eq_true rfl)
  rw [lg_entry_eq]
  generalize (lg_sl ([.ref (ad 6), .int v1, .int v2]) ++ List.replicate (4 - (lg_sl ([.ref (ad 6), .int v1, .int v2])).length) Slot.unset).toArray = ls at hl ⊢
  exact w_X2_enter_0 hm ⟨Nat.le_refl _, Nat.le_refl _⟩ hK hD E hE v1 v2 σ hf _ _ _ hP va_S.rf hl
def p_X2_enter : Nat → Int32 → Int32 → SS → Option SS
  | 0, _, _, _ => none
  | n + 1, v1, v2, σ => p_X2_enter_0 (p_X2_enter n) v1 v2 σ
theorem c_X2_enter (l : Launch) (D : va_G) (ad : Nat → Nat) (cI cJ cZ : ClassId) : ∀ (n : Nat) (v1 v2 : Int32) (σ : SS) {res : SS}, p_X2_enter n v1 v2 σ = some res → Met l yX2_enter wsX2_enter ({ frames := 45 * n, cells := 0, slots := 0, locals := 1159 * n } : Room) (PW D (tyw cI cJ cZ) (wC ad cI cJ cZ σ) [.ref (ad 6), .int v1, .int v2]) (va_Qv (fun (u : SS) => u = res) (fun u t => va_P D vwCl (wC ad cI cJ cZ u) t.heap) (aC ad)) 0 0 (aC ad) := by
  intro n
  induction n with
  | zero =>
    intro _ _ _ _ hf
    cases hf
  | succ n ih =>
    intro v1 v2 σ res hf
    exact co_X2_enter l D ad cI cJ cZ (p_X2_enter n) (fun v1 v2 σ res h => ih v1 v2 σ h) σ v1 v2 hf
/-! CallGraphs$DrawnRun.play(J)V -/
theorem in_X2_play_X2 : ∀ w ∈ u_ws RX2 TX2 15, w ∈ wsX2_play := fun w h => List.mem_cons_of_mem _ (List.mem_append_left _ (List.mem_append_left _ (List.mem_append_left _ (List.mem_append_left _ (List.mem_append_right _ h)))))
def p_X2_play_39 (k11 : Int32 → SS → Option (SS)) (v3 : Int32) (σ : SS) : Option (SS) := k11 (v3 + 1) σ
set_option maxHeartbeats 4000000 in
set_option maxRecDepth 100000 in
theorem w_X2_play_39 {p : Program} {l : Launch} {e : Env} {R : Room} {s : State} {m : MethodId} {args : Array Value} {below : List Frame} {meth : Method} {c : Code} {D : va_G} {ad : Nat → Nat} {cI cJ cZ : ClassId} {res : SS} (hm : mx p s m args meth c cX2_play 4 none wsX2_play RX2) (hR : 631 ≤ R.frames ∧ 16249 ≤ R.locals) (hK : va_K D vwCl (tyw cI cJ cZ) s) (hD : ∀ σ, va_D (aC ad) (wC ad cI cJ cZ σ)) (k11 : Int32 → SS → Option (SS)) (hk11 : ∀ (v3 : Int32) (σ : SS), k11 v3 σ = some res → ∀ (H : Heap) (locs : List Loc) (ls : Array Slot), va_P D vwCl (wC ad cI cJ cZ σ) H → va_S (aC ad) s.heap H locs → lv_has ls 4 [(0, .ref (ad 6)), (3, .int v3)] → W p l e R s m args below meth c H locs 0 0 (MQ below (va_Qv (fun (u : SS) => u = res) (fun u t => va_P D vwCl (wC ad cI cJ cZ u) t.heap) (aC ad)) args s 0 0 (aC ad)) (F0 m 11 ls [])) (v3 : Int32) (σ : SS) (hf : p_X2_play_39 k11 v3 σ = some res) (H : Heap) (locs : List Loc) (ls : Array Slot) (hP : va_P D vwCl (wC ad cI cJ cZ σ) H) (hS : va_S (aC ad) s.heap H locs) (hl : lv_has ls 4 [(0, .ref (ad 6)), (3, .int v3)]) : W p l e R s m args below meth c H locs 0 0 (MQ below (va_Qv (fun (u : SS) => u = res) (fun u t => va_P D vwCl (wC ad cI cJ cZ u) t.heap) (aC ad)) args s 0 0 (aC ad)) (F0 m 39 ls []) := by
  obtain ⟨hx, hb, hr, hml, hown, hts, hlk⟩ := id hm
  unfold p_X2_play_39 at hf
  refine lv_iinc (v := (v3 + 1)) (lv' := [(3, .int (v3 + 1)), (0, .ref (ad 6))]) hx hb dX2_play_39 hl (k := 1) rfl rfl (by decide) rfl (fun ls hl => ?_)
  refine lv_goto (tgt := 11) hx hb dX2_play_42 (by decide) ?_
  exact hk11 (v3 + 1) σ hf _ _ _ hP hS (lv_sub hl [1, 0] rfl)
def p_X2_play_11 : Nat → Int32 → SS → Option (SS)
  | 0, _, _ => none
  | n + 1, v3, σ => let k11 := p_X2_play_11 n; oc (p_X4_size_0 σ) (fun r_16 => if r_16 ≤ v3 then some σ else oc (p_X4_isRoot_0 σ v3) (fun r_27 => if r_27 = 0 then p_X2_play_39 k11 v3 σ else oc (p_X2_enter 14 v3 0 σ) (fun r_36 => p_X2_play_39 k11 v3 r_36)))
set_option maxHeartbeats 4000000 in
set_option maxRecDepth 100000 in
theorem w_X2_play_11 {p : Program} {l : Launch} {e : Env} {R : Room} {s : State} {m : MethodId} {args : Array Value} {below : List Frame} {meth : Method} {c : Code} {D : va_G} {ad : Nat → Nat} {cI cJ cZ : ClassId} {res : SS} (hm : mx p s m args meth c cX2_play 4 none wsX2_play RX2) (hR : 631 ≤ R.frames ∧ 16249 ≤ R.locals) (hK : va_K D vwCl (tyw cI cJ cZ) s) (hD : ∀ σ, va_D (aC ad) (wC ad cI cJ cZ σ)) : ∀ (n : Nat) (v3 : Int32) (σ : SS), p_X2_play_11 n v3 σ = some res → ∀ (H : Heap) (locs : List Loc) (ls : Array Slot), va_P D vwCl (wC ad cI cJ cZ σ) H → va_S (aC ad) s.heap H locs → lv_has ls 4 [(0, .ref (ad 6)), (3, .int v3)] → W p l e R s m args below meth c H locs 0 0 (MQ below (va_Qv (fun (u : SS) => u = res) (fun u t => va_P D vwCl (wC ad cI cJ cZ u) t.heap) (aC ad)) args s 0 0 (aC ad)) (F0 m 11 ls []) := by
  obtain ⟨hx, hb, hr, hml, hown, hts, hlk⟩ := id hm
  intro n
  induction n with
  | zero =>
    intro _ _ hf
    cases hf
  | succ n hk11 =>
    intro v3 σ hf H locs ls hP hS hl
    rw [p_X2_play_11] at hf
    try dsimp only at hf
    refine lv_iload_n hx hb dX2_play_11 rfl (lv_at hl 1 rfl) ?_
    refine lv_aload_n hx hb dX2_play_12 rfl (lv_at hl 0 rfl) ?_
    refine va_get (D := D) (ci := 1) (v := .ref (ad 2)) (C := RX2) (T := TX2) (N := 15) hx hb hts in_X2_play_X2 hown hK hP 6 (wC_6 _ _ _ _ _) rfl 1 (by decide) (hts (.fieldLink RX2 29 "CallGraphs$DrawnRun" "members" "LCallGraphs$Members;") (List.mem_of_getElem? (i := 2) rfl)) (fun _ h9 => h9) (fC_6_1 _ _) dX2_play_13 ?_
    obtain ⟨r_16, hg_16, hf⟩ := oc_e hf
    refine mV_ri (wd := wC ad cI cJ cZ) (σ := σ) (As := []) (rest := [.int v3]) ⟨hx, hb, hml, hown, hts⟩ hK hP hD hS (c_X4_size l D ad cI cJ cZ σ hg_16) (cwV 0 hts gX2_play_X4_size rfl rfl rfl hd_X4_size ⟨Nat.le_trans (Nat.le_of_ble_eq_true rfl) hR.1, Nat.le_trans (Nat.le_of_ble_eq_true rfl) hR.2⟩) rfl (wC_2 _ _ _ _ _) rfl hl.1 rfl (Nat.le_of_ble_eq_true rfl) dX2_play_16 (fun H locs hP hS => ?_)
    refine lv_icmp_ge (tgt := 45) hx hb dX2_play_19 (by decide) (fun c_19 => ?_) (fun c_19 => ?_)
    · rw [if_pos c_19] at hf
      exact rt_v (wd := wC ad cI cJ cZ) hx hb hr hlk (Option.some.inj hf) hP hS dX2_play_45
    · rw [if_neg c_19] at hf
      refine lv_aload_n hx hb dX2_play_22 rfl (lv_at hl 0 rfl) ?_
      refine va_get (D := D) (ci := 1) (v := .ref (ad 2)) (C := RX2) (T := TX2) (N := 15) hx hb hts in_X2_play_X2 hown hK hP 6 (wC_6 _ _ _ _ _) rfl 1 (by decide) (hts (.fieldLink RX2 29 "CallGraphs$DrawnRun" "members" "LCallGraphs$Members;") (List.mem_of_getElem? (i := 2) rfl)) (fun _ h9 => h9) (fC_6_1 _ _) dX2_play_23 ?_
      refine lv_iload_n hx hb dX2_play_26 rfl (lv_at hl 1 rfl) ?_
      obtain ⟨r_27, hg_27, hf⟩ := oc_e hf
      refine mV_ri (wd := wC ad cI cJ cZ) (σ := σ) (As := [.int v3]) (rest := []) ⟨hx, hb, hml, hown, hts⟩ hK hP hD hS (c_X4_isRoot l D ad cI cJ cZ σ v3 hg_27) (cwV 1 hts gX2_play_X4_isRoot rfl rfl rfl hd_X4_isRoot ⟨Nat.le_trans (Nat.le_of_ble_eq_true rfl) hR.1, Nat.le_trans (Nat.le_of_ble_eq_true rfl) hR.2⟩) rfl (wC_2 _ _ _ _ _) rfl hl.1 rfl (Nat.le_of_ble_eq_true rfl) dX2_play_27 (fun H locs hP hS => ?_)
      refine lv_if_eq (tgt := 39) hx hb dX2_play_30 (by decide) (fun c_30 => ?_) (fun c_30 => ?_)
      · rw [if_pos c_30] at hf
        exact w_X2_play_39 hm hR hK hD (p_X2_play_11 n) hk11 v3 σ hf _ _ _ hP hS (lv_sub hl [0, 1] rfl)
      · rw [if_neg c_30] at hf
        refine lv_aload_n hx hb dX2_play_33 rfl (lv_at hl 0 rfl) ?_
        refine lv_iload_n hx hb dX2_play_34 rfl (lv_at hl 1 rfl) ?_
        refine lv_iconst (v := 0) hx hb dX2_play_35 (by decide) ?_
        obtain ⟨r_36, hg_36, hf⟩ := oc_e hf
        refine mV_wv (wd := wC ad cI cJ cZ) (σ := σ) (As := [.int v3, .int 0]) (rest := []) ⟨hx, hb, hml, hown, hts⟩ hK hP hD hS (c_X2_enter l D ad cI cJ cZ 14 v3 0 σ hg_36) (cwV 2 hts gX2_play_X2_enter rfl rfl rfl hd_X2_enter ⟨Nat.le_trans (Nat.le_of_ble_eq_true rfl) hR.1, Nat.le_trans (Nat.le_of_ble_eq_true rfl) hR.2⟩) rfl (wC_6 _ _ _ _ _) rfl hl.1 rfl (Nat.le_of_ble_eq_true rfl) dX2_play_36 (fun H locs hP hS => ?_)
        exact w_X2_play_39 hm hR hK hD (p_X2_play_11 n) hk11 v3 r_36 hf _ _ _ hP hS (lv_sub hl [0, 1] rfl)
def p_X2_play_0 (v1 : Int64) (σ : SS) : Option (SS) := oc (p_X2_clear_0 σ) (fun r_1 => os (sL r_1 6 8 v1) (fun s_6 => p_X2_play_11 100000 0 s_6))
set_option maxHeartbeats 4000000 in
set_option maxRecDepth 100000 in
theorem w_X2_play_0 {p : Program} {l : Launch} {e : Env} {R : Room} {s : State} {m : MethodId} {args : Array Value} {below : List Frame} {meth : Method} {c : Code} {D : va_G} {ad : Nat → Nat} {cI cJ cZ : ClassId} {res : SS} (hm : mx p s m args meth c cX2_play 4 none wsX2_play RX2) (hR : 631 ≤ R.frames ∧ 16249 ≤ R.locals) (hK : va_K D vwCl (tyw cI cJ cZ) s) (hD : ∀ σ, va_D (aC ad) (wC ad cI cJ cZ σ)) (v1 : Int64) (σ : SS) (hf : p_X2_play_0 v1 σ = some res) (H : Heap) (locs : List Loc) (ls : Array Slot) (hP : va_P D vwCl (wC ad cI cJ cZ σ) H) (hS : va_S (aC ad) s.heap H locs) (hl : lv_has ls 4 [(0, .ref (ad 6)), (1, .long v1)]) : W p l e R s m args below meth c H locs 0 0 (MQ below (va_Qv (fun (u : SS) => u = res) (fun u t => va_P D vwCl (wC ad cI cJ cZ u) t.heap) (aC ad)) args s 0 0 (aC ad)) (F0 m 0 ls []) := by
  obtain ⟨hx, hb, hr, hml, hown, hts, hlk⟩ := id hm
  unfold p_X2_play_0 at hf
  refine lv_aload_n hx hb dX2_play_0 rfl (lv_at hl 0 rfl) ?_
  obtain ⟨r_1, hg_1, hf⟩ := oc_e hf
  refine mV_wv (wd := wC ad cI cJ cZ) (σ := σ) (As := []) (rest := []) ⟨hx, hb, hml, hown, hts⟩ hK hP hD hS (c_X2_clear l D ad cI cJ cZ σ hg_1) (cwV 0 hts gX2_play_X2_clear rfl rfl rfl hd_X2_clear ⟨Nat.le_trans (Nat.le_of_ble_eq_true rfl) hR.1, Nat.le_trans (Nat.le_of_ble_eq_true rfl) hR.2⟩) rfl (wC_6 _ _ _ _ _) rfl hl.1 rfl (Nat.le_of_ble_eq_true rfl) dX2_play_1 (fun H locs hP hS => ?_)
  refine lv_aload_n hx hb dX2_play_4 rfl (lv_at hl 0 rfl) ?_
  refine lv_lload_n hx hb dX2_play_5 rfl (lv_at hl 1 rfl) ?_
  refine va_put (D := D) (ci := 1) (v := .long v1) (ty := .long) (C := RX2) (T := TX2) (N := 15) hx hb hts in_X2_play_X2 tyX2 tyX2_ok nmX2 hown hK hP (hD _) hS 6 (wC_6 _ _ _ _ _) rfl 8 (by decide) (hts (.fieldLink RX2 70 "CallGraphs$DrawnRun" "x" "J") (List.mem_of_getElem? (i := 1) rfl)) (fun _ h9 => h9) rfl (tyX2_ok 8 (by decide)) rfl rfl (Nat.le_of_ble_eq_true rfl) dX2_play_6 (fun H locs hP _ hS => ?_)
  have hP := wC_p6_8 hP
  obtain ⟨s_6, es_6, hf⟩ := os_e hf
  rw [← es_6] at hP
  refine lv_iconst (v := 0) hx hb dX2_play_9 (by decide) ?_
  refine lv_istore_n (lv' := [(3, .int 0), (0, .ref (ad 6)), (1, .long v1)]) hx hb dX2_play_10 rfl hl (by decide) rfl (fun ls hl => ?_)
  exact w_X2_play_11 hm hR hK hD 100000 0 s_6 hf _ _ _ hP hS (lv_sub hl [1, 0] rfl)
theorem hd_X2_play : yX2_play.cls = RX2 ∧ yX2_play.cls ≠ "java/lang/invoke/MethodHandle" ∧ yX2_play.cls ≠ "java/lang/invoke/VarHandle" ∧ (parseMethodDescriptor yX2_play.desc).map (fun d => d.parameters.length) = some 1 := by decide +kernel
set_option maxHeartbeats 4000000 in
set_option maxRecDepth 100000 in
theorem c_X2_play (l : Launch) (D : va_G) (ad : Nat → Nat) (cI cJ cZ : ClassId) (σ : SS) (v1 : Int64) {res : SS} (hf : p_X2_play_0 v1 σ = some res) : Met l yX2_play wsX2_play ({ frames := 631, cells := 0, slots := 0, locals := 16249 } : Room) (PW D (tyw cI cJ cZ) (wC ad cI cJ cZ σ) [.ref (ad 6), .long v1]) (va_Qv (fun (u : SS) => u = res) (fun u t => va_P D vwCl (wC ad cI cJ cZ u) t.heap) (aC ad)) 0 0 (aC ad) := by
  refine Met.ofW (cc := cX2_play) (maxL := 4) (ret := none) (by decide) rfl ?_
  intro p e s m args below meth c s₁ B hml hv
  obtain ⟨rfl, hP, hK, hD0⟩ := hv
  have hD : ∀ σ, va_D (aC ad) (wC ad cI cJ cZ σ) := fun σ => wd_D hD0 (wC_map _ _ _ _ _) (wC_map _ _ _ _ _)
  have hm : mx p s m _ meth c cX2_play 4 none wsX2_play RX2 := ⟨B.exec, B.bytes, B.returns, hml, findClass_of_methodNamed B.named, atoms_spec (ws := wsX2_play) B.pre, B.notSynchronized⟩
  have hl := lv_entry ([.ref (ad 6), .long v1]) (n := 4) (Nat.le_of_ble_eq_true rfl)
  rw [lg_entry_eq]
  generalize (lg_sl ([.ref (ad 6), .long v1]) ++ List.replicate (4 - (lg_sl ([.ref (ad 6), .long v1])).length) Slot.unset).toArray = ls at hl ⊢
  exact w_X2_play_0 hm ⟨Nat.le_refl _, Nat.le_refl _⟩ hK hD v1 σ hf _ _ _ hP va_S.rf hl
