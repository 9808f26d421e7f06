/-! CallGraphs$Ops.a(I)I -/
theorem in_X5_a_X5 : ∀ w ∈ u_ws RX5 TX5 6, w ∈ wsX5_a := fun w h => List.mem_cons_of_mem _ (List.mem_append_right _ h)
def p_X5_a_0 (σ : SS) (v1 : Int32) : Option (Int32) := oi v1 160 (some (σ.1 20 v1.toNatClampNeg))
set_option maxHeartbeats 4000000 in
set_option maxRecDepth 100000 in
theorem w_X5_a_0 {p : Program} {l : Launch} {e : Env} {R : Room} {s : State} {m : MethodId} {args : Array Value} {below : List Frame} {meth : Method} {c : Code} {D : va_G} {ad : Nat → Nat} {cI cJ cZ : ClassId} {res : Int32} (hm : mx p s m args meth c cX5_a 2 (some .int) wsX5_a RX5) (hR : 0 ≤ R.frames ∧ 0 ≤ R.locals) (hK : va_K D vwCl (tyw cI cJ cZ) s) (hD : ∀ σ, va_D (aC ad) (wC ad cI cJ cZ σ)) (σ : SS) (v1 : Int32) (hf : p_X5_a_0 σ v1 = some res) (H : Heap) (locs : List Loc) (ls : Array Slot) (hP : va_P D vwCl (wC ad cI cJ cZ σ) H) (hS : va_S (aC ad) s.heap H locs) (hl : lv_has ls 2 [(0, .ref (ad 4)), (1, .int v1)]) : W p l e R s m args below meth c H locs 0 0 (MQ below (va_Qi (fun (r : Int32) (u : SS) => r = res ∧ u = σ) (fun u t => va_P D vwCl (wC ad cI cJ cZ u) t.heap) (aC ad)) args s 0 0 (aC ad)) (F0 m 0 ls []) := by
  obtain ⟨hx, hb, hr, hml, hown, hts, hlk⟩ := id hm
  unfold p_X5_a_0 at hf
  refine lv_aload_n hx hb dX5_a_0 rfl (lv_at hl 0 rfl) ?_
  refine va_get (D := D) (ci := 4) (v := .ref (ad 20)) (C := RX5) (T := TX5) (N := 6) hx hb hts in_X5_a_X5 hown hK hP 4 (wC_4 _ _ _ _ _) rfl 1 (by decide) (hts (.fieldLink RX5 15 "CallGraphs$Ops" "as" "[I") (List.mem_of_getElem? (i := 1) rfl)) (fun _ h9 => h9) (fC_4_1 _ _) dX5_a_1 ?_
  refine lv_iload_n hx hb dX5_a_4 rfl (lv_at hl 1 rfl) ?_
  obtain ⟨h_5, hf⟩ := oi_e hf
  refine va_iald hx hb hK hP 20 0 (wC_20 _ _ _ _ _) rfl h_5 dX5_a_5 ?_
  exact rt_i (wd := wC ad cI cJ cZ) hx hb hr hlk ⟨Option.some.inj hf, rfl⟩ hP hS dX5_a_6
theorem hd_X5_a : yX5_a.cls = RX5 ∧ yX5_a.cls ≠ "java/lang/invoke/MethodHandle" ∧ yX5_a.cls ≠ "java/lang/invoke/VarHandle" ∧ (parseMethodDescriptor yX5_a.desc).map (fun d => d.parameters.length) = some 1 := by decide +kernel
set_option maxHeartbeats 4000000 in
set_option maxRecDepth 100000 in
theorem c_X5_a (l : Launch) (D : va_G) (ad : Nat → Nat) (cI cJ cZ : ClassId) (σ : SS) (v1 : Int32) {res : Int32} (hf : p_X5_a_0 σ v1 = some res) : Met l yX5_a wsX5_a ({ frames := 0, cells := 0, slots := 0, locals := 0 } : Room) (PW D (tyw cI cJ cZ) (wC ad cI cJ cZ σ) [.ref (ad 4), .int v1]) (va_Qi (fun (r : Int32) (u : SS) => r = res ∧ u = σ) (fun u t => va_P D vwCl (wC ad cI cJ cZ u) t.heap) (aC ad)) 0 0 (aC ad) := by
  refine Met.ofW (cc := cX5_a) (maxL := 2) (ret := (some .int)) (by decide) rfl ?_
  intro p e s m args below meth c s₁ B hml hv
  obtain ⟨rfl, hP, hK, hD0⟩ := hv
  have hD : ∀ σ, va_D (aC ad) (wC ad cI cJ cZ σ) := fun σ => wd_D hD0 (wC_map _ _ _ _ _) (wC_map _ _ _ _ _)
  have hm : mx p s m _ meth c cX5_a 2 (some .int) wsX5_a RX5 := ⟨B.exec, B.bytes, B.returns, hml, findClass_of_methodNamed B.named, atoms_spec (ws := wsX5_a) B.pre, B.notSynchronized⟩
  have hl := lv_entry ([.ref (ad 4), .int v1]) (n := 2) (Nat.le_of_ble_eq_true rfl)
  rw [lg_entry_eq]
  generalize (lg_sl ([.ref (ad 4), .int v1]) ++ List.replicate (2 - (lg_sl ([.ref (ad 4), .int v1])).length) Slot.unset).toArray = ls at hl ⊢
  exact w_X5_a_0 hm ⟨Nat.le_refl _, Nat.le_refl _⟩ hK hD σ v1 hf _ _ _ hP va_S.rf hl
/-! CallGraphs$Ops.b(I)I -/
theorem in_X5_b_X5 : ∀ w ∈ u_ws RX5 TX5 6, w ∈ wsX5_b := fun w h => List.mem_cons_of_mem _ (List.mem_append_right _ h)
def p_X5_b_0 (σ : SS) (v1 : Int32) : Option (Int32) := oi v1 160 (some (σ.1 21 v1.toNatClampNeg))
set_option maxHeartbeats 4000000 in
set_option maxRecDepth 100000 in
theorem w_X5_b_0 {p : Program} {l : Launch} {e : Env} {R : Room} {s : State} {m : MethodId} {args : Array Value} {below : List Frame} {meth : Method} {c : Code} {D : va_G} {ad : Nat → Nat} {cI cJ cZ : ClassId} {res : Int32} (hm : mx p s m args meth c cX5_b 2 (some .int) wsX5_b RX5) (hR : 0 ≤ R.frames ∧ 0 ≤ R.locals) (hK : va_K D vwCl (tyw cI cJ cZ) s) (hD : ∀ σ, va_D (aC ad) (wC ad cI cJ cZ σ)) (σ : SS) (v1 : Int32) (hf : p_X5_b_0 σ v1 = some res) (H : Heap) (locs : List Loc) (ls : Array Slot) (hP : va_P D vwCl (wC ad cI cJ cZ σ) H) (hS : va_S (aC ad) s.heap H locs) (hl : lv_has ls 2 [(0, .ref (ad 4)), (1, .int v1)]) : W p l e R s m args below meth c H locs 0 0 (MQ below (va_Qi (fun (r : Int32) (u : SS) => r = res ∧ u = σ) (fun u t => va_P D vwCl (wC ad cI cJ cZ u) t.heap) (aC ad)) args s 0 0 (aC ad)) (F0 m 0 ls []) := by
  obtain ⟨hx, hb, hr, hml, hown, hts, hlk⟩ := id hm
  unfold p_X5_b_0 at hf
  refine lv_aload_n hx hb dX5_b_0 rfl (lv_at hl 0 rfl) ?_
  refine va_get (D := D) (ci := 4) (v := .ref (ad 21)) (C := RX5) (T := TX5) (N := 6) hx hb hts in_X5_b_X5 hown hK hP 4 (wC_4 _ _ _ _ _) rfl 2 (by decide) (hts (.fieldLink RX5 18 "CallGraphs$Ops" "bs" "[I") (List.mem_of_getElem? (i := 1) rfl)) (fun _ h9 => h9) (fC_4_2 _ _) dX5_b_1 ?_
  refine lv_iload_n hx hb dX5_b_4 rfl (lv_at hl 1 rfl) ?_
  obtain ⟨h_5, hf⟩ := oi_e hf
  refine va_iald hx hb hK hP 21 0 (wC_21 _ _ _ _ _) rfl h_5 dX5_b_5 ?_
  exact rt_i (wd := wC ad cI cJ cZ) hx hb hr hlk ⟨Option.some.inj hf, rfl⟩ hP hS dX5_b_6
theorem hd_X5_b : yX5_b.cls = RX5 ∧ yX5_b.cls ≠ "java/lang/invoke/MethodHandle" ∧ yX5_b.cls ≠ "java/lang/invoke/VarHandle" ∧ (parseMethodDescriptor yX5_b.desc).map (fun d => d.parameters.length) = some 1 := by decide +kernel
set_option maxHeartbeats 4000000 in
set_option maxRecDepth 100000 in
theorem c_X5_b (l : Launch) (D : va_G) (ad : Nat → Nat) (cI cJ cZ : ClassId) (σ : SS) (v1 : Int32) {res : Int32} (hf : p_X5_b_0 σ v1 = some res) : Met l yX5_b wsX5_b ({ frames := 0, cells := 0, slots := 0, locals := 0 } : Room) (PW D (tyw cI cJ cZ) (wC ad cI cJ cZ σ) [.ref (ad 4), .int v1]) (va_Qi (fun (r : Int32) (u : SS) => r = res ∧ u = σ) (fun u t => va_P D vwCl (wC ad cI cJ cZ u) t.heap) (aC ad)) 0 0 (aC ad) := by
  refine Met.ofW (cc := cX5_b) (maxL := 2) (ret := (some .int)) (by decide) rfl ?_
  intro p e s m args below meth c s₁ B hml hv
  obtain ⟨rfl, hP, hK, hD0⟩ := hv
  have hD : ∀ σ, va_D (aC ad) (wC ad cI cJ cZ σ) := fun σ => wd_D hD0 (wC_map _ _ _ _ _) (wC_map _ _ _ _ _)
  have hm : mx p s m _ meth c cX5_b 2 (some .int) wsX5_b RX5 := ⟨B.exec, B.bytes, B.returns, hml, findClass_of_methodNamed B.named, atoms_spec (ws := wsX5_b) B.pre, B.notSynchronized⟩
  have hl := lv_entry ([.ref (ad 4), .int v1]) (n := 2) (Nat.le_of_ble_eq_true rfl)
  rw [lg_entry_eq]
  generalize (lg_sl ([.ref (ad 4), .int v1]) ++ List.replicate (2 - (lg_sl ([.ref (ad 4), .int v1])).length) Slot.unset).toArray = ls at hl ⊢
  exact w_X5_b_0 hm ⟨Nat.le_refl _, Nat.le_refl _⟩ hK hD σ v1 hf _ _ _ hP va_S.rf hl
/-! CallGraphs$Ops.kindOf(I)I -/
theorem in_X5_kindOf_X5 : ∀ w ∈ u_ws RX5 TX5 6, w ∈ wsX5_kindOf := fun w h => List.mem_cons_of_mem _ (List.mem_append_right _ h)
def p_X5_kindOf_0 (σ : SS) (v1 : Int32) : Option (Int32) := oi v1 160 (some (σ.1 19 v1.toNatClampNeg))
set_option maxHeartbeats 4000000 in
set_option maxRecDepth 100000 in
theorem w_X5_kindOf_0 {p : Program} {l : Launch} {e : Env} {R : Room} {s : State} {m : MethodId} {args : Array Value} {below : List Frame} {meth : Method} {c : Code} {D : va_G} {ad : Nat → Nat} {cI cJ cZ : ClassId} {res : Int32} (hm : mx p s m args meth c cX5_kindOf 2 (some .int) wsX5_kindOf RX5) (hR : 0 ≤ R.frames ∧ 0 ≤ R.locals) (hK : va_K D vwCl (tyw cI cJ cZ) s) (hD : ∀ σ, va_D (aC ad) (wC ad cI cJ cZ σ)) (σ : SS) (v1 : Int32) (hf : p_X5_kindOf_0 σ v1 = some res) (H : Heap) (locs : List Loc) (ls : Array Slot) (hP : va_P D vwCl (wC ad cI cJ cZ σ) H) (hS : va_S (aC ad) s.heap H locs) (hl : lv_has ls 2 [(0, .ref (ad 4)), (1, .int v1)]) : W p l e R s m args below meth c H locs 0 0 (MQ below (va_Qi (fun (r : Int32) (u : SS) => r = res ∧ u = σ) (fun u t => va_P D vwCl (wC ad cI cJ cZ u) t.heap) (aC ad)) args s 0 0 (aC ad)) (F0 m 0 ls []) := by
  obtain ⟨hx, hb, hr, hml, hown, hts, hlk⟩ := id hm
  unfold p_X5_kindOf_0 at hf
  refine lv_aload_n hx hb dX5_kindOf_0 rfl (lv_at hl 0 rfl) ?_
  refine va_get (D := D) (ci := 4) (v := .ref (ad 19)) (C := RX5) (T := TX5) (N := 6) hx hb hts in_X5_kindOf_X5 hown hK hP 4 (wC_4 _ _ _ _ _) rfl 0 (by decide) (hts (.fieldLink RX5 9 "CallGraphs$Ops" "kinds" "[I") (List.mem_of_getElem? (i := 1) rfl)) (fun _ h9 => h9) (fC_4_0 _ _) dX5_kindOf_1 ?_
  refine lv_iload_n hx hb dX5_kindOf_4 rfl (lv_at hl 1 rfl) ?_
  obtain ⟨h_5, hf⟩ := oi_e hf
  refine va_iald hx hb hK hP 19 0 (wC_19 _ _ _ _ _) rfl h_5 dX5_kindOf_5 ?_
  exact rt_i (wd := wC ad cI cJ cZ) hx hb hr hlk ⟨Option.some.inj hf, rfl⟩ hP hS dX5_kindOf_6
theorem hd_X5_kindOf : yX5_kindOf.cls = RX5 ∧ yX5_kindOf.cls ≠ "java/lang/invoke/MethodHandle" ∧ yX5_kindOf.cls ≠ "java/lang/invoke/VarHandle" ∧ (parseMethodDescriptor yX5_kindOf.desc).map (fun d => d.parameters.length) = some 1 := by decide +kernel
set_option maxHeartbeats 4000000 in
set_option maxRecDepth 100000 in
theorem c_X5_kindOf (l : Launch) (D : va_G) (ad : Nat → Nat) (cI cJ cZ : ClassId) (σ : SS) (v1 : Int32) {res : Int32} (hf : p_X5_kindOf_0 σ v1 = some res) : Met l yX5_kindOf wsX5_kindOf ({ frames := 0, cells := 0, slots := 0, locals := 0 } : Room) (PW D (tyw cI cJ cZ) (wC ad cI cJ cZ σ) [.ref (ad 4), .int v1]) (va_Qi (fun (r : Int32) (u : SS) => r = res ∧ u = σ) (fun u t => va_P D vwCl (wC ad cI cJ cZ u) t.heap) (aC ad)) 0 0 (aC ad) := by
  refine Met.ofW (cc := cX5_kindOf) (maxL := 2) (ret := (some .int)) (by decide) rfl ?_
  intro p e s m args below meth c s₁ B hml hv
  obtain ⟨rfl, hP, hK, hD0⟩ := hv
  have hD : ∀ σ, va_D (aC ad) (wC ad cI cJ cZ σ) := fun σ => wd_D hD0 (wC_map _ _ _ _ _) (wC_map _ _ _ _ _)
  have hm : mx p s m _ meth c cX5_kindOf 2 (some .int) wsX5_kindOf RX5 := ⟨B.exec, B.bytes, B.returns, hml, findClass_of_methodNamed B.named, atoms_spec (ws := wsX5_kindOf) B.pre, B.notSynchronized⟩
  have hl := lv_entry ([.ref (ad 4), .int v1]) (n := 2) (Nat.le_of_ble_eq_true rfl)
  rw [lg_entry_eq]
  generalize (lg_sl ([.ref (ad 4), .int v1]) ++ List.replicate (2 - (lg_sl ([.ref (ad 4), .int v1])).length) Slot.unset).toArray = ls at hl ⊢
  exact w_X5_kindOf_0 hm ⟨Nat.le_refl _, Nat.le_refl _⟩ hK hD σ v1 hf _ _ _ hP va_S.rf hl
/-! CallGraphs$Ops.at(II)I -/
theorem in_X5_at_X5 : ∀ w ∈ u_ws RX5 TX5 6, w ∈ wsX5_at := fun w h => List.mem_cons_of_mem _ (List.mem_append_right _ h)
def p_X5_at_0 (σ : SS) (v1 : Int32) (v2 : Int32) : Option (Int32) := oi ((v1 * 24) + v2) 1152 (some (σ.1 23 ((v1 * 24) + v2).toNatClampNeg))
set_option maxHeartbeats 4000000 in
set_option maxRecDepth 100000 in
theorem w_X5_at_0 {p : Program} {l : Launch} {e : Env} {R : Room} {s : State} {m : MethodId} {args : Array Value} {below : List Frame} {meth : Method} {c : Code} {D : va_G} {ad : Nat → Nat} {cI cJ cZ : ClassId} {res : Int32} (hm : mx p s m args meth c cX5_at 3 (some .int) wsX5_at RX5) (hR : 0 ≤ R.frames ∧ 0 ≤ R.locals) (hK : va_K D vwCl (tyw cI cJ cZ) s) (hD : ∀ σ, va_D (aC ad) (wC ad cI cJ cZ σ)) (σ : SS) (v1 : Int32) (v2 : Int32) (hf : p_X5_at_0 σ v1 v2 = some res) (H : Heap) (locs : List Loc) (ls : Array Slot) (hP : va_P D vwCl (wC ad cI cJ cZ σ) H) (hS : va_S (aC ad) s.heap H locs) (hl : lv_has ls 3 [(0, .ref (ad 4)), (1, .int v1), (2, .int v2)]) : W p l e R s m args below meth c H locs 0 0 (MQ below (va_Qi (fun (r : Int32) (u : SS) => r = res ∧ u = σ) (fun u t => va_P D vwCl (wC ad cI cJ cZ u) t.heap) (aC ad)) args s 0 0 (aC ad)) (F0 m 0 ls []) := by
  obtain ⟨hx, hb, hr, hml, hown, hts, hlk⟩ := id hm
  unfold p_X5_at_0 at hf
  refine lv_aload_n hx hb dX5_at_0 rfl (lv_at hl 0 rfl) ?_
  refine va_get (D := D) (ci := 4) (v := .ref (ad 23)) (C := RX5) (T := TX5) (N := 6) hx hb hts in_X5_at_X5 hown hK hP 4 (wC_4 _ _ _ _ _) rfl 4 (by decide) (hts (.fieldLink RX5 24 "CallGraphs$Ops" "places" "[I") (List.mem_of_getElem? (i := 1) rfl)) (fun _ h9 => h9) (fC_4_4 _ _) dX5_at_1 ?_
  refine lv_iload_n hx hb dX5_at_4 rfl (lv_at hl 1 rfl) ?_
  refine lv_bipush (v := 24) hx hb dX5_at_5 (by decide) ?_
  refine lv_imul hx hb dX5_at_7 ?_
  refine lv_iload_n hx hb dX5_at_8 rfl (lv_at hl 2 rfl) ?_
  refine lv_iadd hx hb dX5_at_9 ?_
  obtain ⟨h_10, hf⟩ := oi_e hf
  refine va_iald hx hb hK hP 23 0 (wC_23 _ _ _ _ _) rfl h_10 dX5_at_10 ?_
  exact rt_i (wd := wC ad cI cJ cZ) hx hb hr hlk ⟨Option.some.inj hf, rfl⟩ hP hS dX5_at_11
theorem hd_X5_at : yX5_at.cls = RX5 ∧ yX5_at.cls ≠ "java/lang/invoke/MethodHandle" ∧ yX5_at.cls ≠ "java/lang/invoke/VarHandle" ∧ (parseMethodDescriptor yX5_at.desc).map (fun d => d.parameters.length) = some 2 := by decide +kernel
set_option maxHeartbeats 4000000 in
set_option maxRecDepth 100000 in
theorem c_X5_at (l : Launch) (D : va_G) (ad : Nat → Nat) (cI cJ cZ : ClassId) (σ : SS) (v1 : Int32) (v2 : Int32) {res : Int32} (hf : p_X5_at_0 σ v1 v2 = some res) : Met l yX5_at wsX5_at ({ frames := 0, cells := 0, slots := 0, locals := 0 } : Room) (PW D (tyw cI cJ cZ) (wC ad cI cJ cZ σ) [.ref (ad 4), .int v1, .int v2]) (va_Qi (fun (r : Int32) (u : SS) => r = res ∧ u = σ) (fun u t => va_P D vwCl (wC ad cI cJ cZ u) t.heap) (aC ad)) 0 0 (aC ad) := by
  refine Met.ofW (cc := cX5_at) (maxL := 3) (ret := (some .int)) (by decide) rfl ?_
  intro p e s m args below meth c s₁ B hml hv
  obtain ⟨rfl, hP, hK, hD0⟩ := hv
  have hD : ∀ σ, va_D (aC ad) (wC ad cI cJ cZ σ) := fun σ => wd_D hD0 (wC_map _ _ _ _ _) (wC_map _ _ _ _ _)
  have hm : mx p s m _ meth c cX5_at 3 (some .int) wsX5_at RX5 := ⟨B.exec, B.bytes, B.returns, hml, findClass_of_methodNamed B.named, atoms_spec (ws := wsX5_at) B.pre, B.notSynchronized⟩
  have hl := lv_entry ([.ref (ad 4), .int v1, .int v2]) (n := 3) (Nat.le_of_ble_eq_true rfl)
  rw [lg_entry_eq]
  generalize (lg_sl ([.ref (ad 4), .int v1, .int v2]) ++ List.replicate (3 - (lg_sl ([.ref (ad 4), .int v1, .int v2])).length) Slot.unset).toArray = ls at hl ⊢
  exact w_X5_at_0 hm ⟨Nat.le_refl _, Nat.le_refl _⟩ hK hD σ v1 v2 hf _ _ _ hP va_S.rf hl
/-! CallGraphs$Ops.sizeOf(I)I -/
theorem in_X5_sizeOf_X5 : ∀ w ∈ u_ws RX5 TX5 6, w ∈ wsX5_sizeOf := fun w h => List.mem_cons_of_mem _ (List.mem_append_right _ h)
def p_X5_sizeOf_0 (σ : SS) (v1 : Int32) : Option (Int32) := oi v1 48 (some (σ.1 22 v1.toNatClampNeg))
set_option maxHeartbeats 4000000 in
set_option maxRecDepth 100000 in
theorem w_X5_sizeOf_0 {p : Program} {l : Launch} {e : Env} {R : Room} {s : State} {m : MethodId} {args : Array Value} {below : List Frame} {meth : Method} {c : Code} {D : va_G} {ad : Nat → Nat} {cI cJ cZ : ClassId} {res : Int32} (hm : mx p s m args meth c cX5_sizeOf 2 (some .int) wsX5_sizeOf RX5) (hR : 0 ≤ R.frames ∧ 0 ≤ R.locals) (hK : va_K D vwCl (tyw cI cJ cZ) s) (hD : ∀ σ, va_D (aC ad) (wC ad cI cJ cZ σ)) (σ : SS) (v1 : Int32) (hf : p_X5_sizeOf_0 σ v1 = some res) (H : Heap) (locs : List Loc) (ls : Array Slot) (hP : va_P D vwCl (wC ad cI cJ cZ σ) H) (hS : va_S (aC ad) s.heap H locs) (hl : lv_has ls 2 [(0, .ref (ad 4)), (1, .int v1)]) : W p l e R s m args below meth c H locs 0 0 (MQ below (va_Qi (fun (r : Int32) (u : SS) => r = res ∧ u = σ) (fun u t => va_P D vwCl (wC ad cI cJ cZ u) t.heap) (aC ad)) args s 0 0 (aC ad)) (F0 m 0 ls []) := by
  obtain ⟨hx, hb, hr, hml, hown, hts, hlk⟩ := id hm
  unfold p_X5_sizeOf_0 at hf
  refine lv_aload_n hx hb dX5_sizeOf_0 rfl (lv_at hl 0 rfl) ?_
  refine va_get (D := D) (ci := 4) (v := .ref (ad 22)) (C := RX5) (T := TX5) (N := 6) hx hb hts in_X5_sizeOf_X5 hown hK hP 4 (wC_4 _ _ _ _ _) rfl 3 (by decide) (hts (.fieldLink RX5 21 "CallGraphs$Ops" "counts" "[I") (List.mem_of_getElem? (i := 1) rfl)) (fun _ h9 => h9) (fC_4_3 _ _) dX5_sizeOf_1 ?_
  refine lv_iload_n hx hb dX5_sizeOf_4 rfl (lv_at hl 1 rfl) ?_
  obtain ⟨h_5, hf⟩ := oi_e hf
  refine va_iald hx hb hK hP 22 0 (wC_22 _ _ _ _ _) rfl h_5 dX5_sizeOf_5 ?_
  exact rt_i (wd := wC ad cI cJ cZ) hx hb hr hlk ⟨Option.some.inj hf, rfl⟩ hP hS dX5_sizeOf_6
theorem hd_X5_sizeOf : yX5_sizeOf.cls = RX5 ∧ yX5_sizeOf.cls ≠ "java/lang/invoke/MethodHandle" ∧ yX5_sizeOf.cls ≠ "java/lang/invoke/VarHandle" ∧ (parseMethodDescriptor yX5_sizeOf.desc).map (fun d => d.parameters.length) = some 1 := by decide +kernel
set_option maxHeartbeats 4000000 in
set_option maxRecDepth 100000 in
theorem c_X5_sizeOf (l : Launch) (D : va_G) (ad : Nat → Nat) (cI cJ cZ : ClassId) (σ : SS) (v1 : Int32) {res : Int32} (hf : p_X5_sizeOf_0 σ v1 = some res) : Met l yX5_sizeOf wsX5_sizeOf ({ frames := 0, cells := 0, slots := 0, locals := 0 } : Room) (PW D (tyw cI cJ cZ) (wC ad cI cJ cZ σ) [.ref (ad 4), .int v1]) (va_Qi (fun (r : Int32) (u : SS) => r = res ∧ u = σ) (fun u t => va_P D vwCl (wC ad cI cJ cZ u) t.heap) (aC ad)) 0 0 (aC ad) := by
  refine Met.ofW (cc := cX5_sizeOf) (maxL := 2) (ret := (some .int)) (by decide) rfl ?_
  intro p e s m args below meth c s₁ B hml hv
  obtain ⟨rfl, hP, hK, hD0⟩ := hv
  have hD : ∀ σ, va_D (aC ad) (wC ad cI cJ cZ σ) := fun σ => wd_D hD0 (wC_map _ _ _ _ _) (wC_map _ _ _ _ _)
  have hm : mx p s m _ meth c cX5_sizeOf 2 (some .int) wsX5_sizeOf RX5 := ⟨B.exec, B.bytes, B.returns, hml, findClass_of_methodNamed B.named, atoms_spec (ws := wsX5_sizeOf) B.pre, B.notSynchronized⟩
  have hl := lv_entry ([.ref (ad 4), .int v1]) (n := 2) (Nat.le_of_ble_eq_true rfl)
  rw [lg_entry_eq]
  generalize (lg_sl ([.ref (ad 4), .int v1]) ++ List.replicate (2 - (lg_sl ([.ref (ad 4), .int v1])).length) Slot.unset).toArray = ls at hl ⊢
  exact w_X5_sizeOf_0 hm ⟨Nat.le_refl _, Nat.le_refl _⟩ hK hD σ v1 hf _ _ _ hP va_S.rf hl
/-! CallGraphs$Ops.size()I -/
theorem in_X5_size_X5 : ∀ w ∈ u_ws RX5 TX5 6, w ∈ wsX5_size := fun w h => List.mem_cons_of_mem _ (List.mem_append_right _ h)
def p_X5_size_0 (σ : SS) : Option (Int32) := some (σ.1 4 5)
set_option maxHeartbeats 4000000 in
set_option maxRecDepth 100000 in
theorem w_X5_size_0 {p : Program} {l : Launch} {e : Env} {R : Room} {s : State} {m : MethodId} {args : Array Value} {below : List Frame} {meth : Method} {c : Code} {D : va_G} {ad : Nat → Nat} {cI cJ cZ : ClassId} {res : Int32} (hm : mx p s m args meth c cX5_size 1 (some .int) wsX5_size RX5) (hR : 0 ≤ R.frames ∧ 0 ≤ R.locals) (hK : va_K D vwCl (tyw cI cJ cZ) s) (hD : ∀ σ, va_D (aC ad) (wC ad cI cJ cZ σ)) (σ : SS) (hf : p_X5_size_0 σ = some res) (H : Heap) (locs : List Loc) (ls : Array Slot) (hP : va_P D vwCl (wC ad cI cJ cZ σ) H) (hS : va_S (aC ad) s.heap H locs) (hl : lv_has ls 1 [(0, .ref (ad 4))]) : W p l e R s m args below meth c H locs 0 0 (MQ below (va_Qi (fun (r : Int32) (u : SS) => r = res ∧ u = σ) (fun u t => va_P D vwCl (wC ad cI cJ cZ u) t.heap) (aC ad)) args s 0 0 (aC ad)) (F0 m 0 ls []) := by
  obtain ⟨hx, hb, hr, hml, hown, hts, hlk⟩ := id hm
  unfold p_X5_size_0 at hf
  refine lv_aload_n hx hb dX5_size_0 rfl (lv_at hl 0 rfl) ?_
  refine va_get (D := D) (ci := 4) (v := .int (σ.1 4 5)) (C := RX5) (T := TX5) (N := 6) hx hb hts in_X5_size_X5 hown hK hP 4 (wC_4 _ _ _ _ _) rfl 5 (by decide) (hts (.fieldLink RX5 27 "CallGraphs$Ops" "count" "I") (List.mem_of_getElem? (i := 1) rfl)) (fun _ h9 => h9) (fC_4_5 _ _) dX5_size_1 ?_
  exact rt_i (wd := wC ad cI cJ cZ) hx hb hr hlk ⟨Option.some.inj hf, rfl⟩ hP hS dX5_size_4
theorem hd_X5_size : yX5_size.cls = RX5 ∧ yX5_size.cls ≠ "java/lang/invoke/MethodHandle" ∧ yX5_size.cls ≠ "java/lang/invoke/VarHandle" ∧ (parseMethodDescriptor yX5_size.desc).map (fun d => d.parameters.length) = some 0 := by decide +kernel
set_option maxHeartbeats 4000000 in
set_option maxRecDepth 100000 in
theorem c_X5_size (l : Launch) (D : va_G) (ad : Nat → Nat) (cI cJ cZ : ClassId) (σ : SS) {res : Int32} (hf : p_X5_size_0 σ = some res) : Met l yX5_size wsX5_size ({ frames := 0, cells := 0, slots := 0, locals := 0 } : Room) (PW D (tyw cI cJ cZ) (wC ad cI cJ cZ σ) [.ref (ad 4)]) (va_Qi (fun (r : Int32) (u : SS) => r = res ∧ u = σ) (fun u t => va_P D vwCl (wC ad cI cJ cZ u) t.heap) (aC ad)) 0 0 (aC ad) := by
  refine Met.ofW (cc := cX5_size) (maxL := 1) (ret := (some .int)) (by decide) rfl ?_
  intro p e s m args below meth c s₁ B hml hv
  obtain ⟨rfl, hP, hK, hD0⟩ := hv
  have hD : ∀ σ, va_D (aC ad) (wC ad cI cJ cZ σ) := fun σ => wd_D hD0 (wC_map _ _ _ _ _) (wC_map _ _ _ _ _)
  have hm : mx p s m _ meth c cX5_size 1 (some .int) wsX5_size RX5 := ⟨B.exec, B.bytes, B.returns, hml, findClass_of_methodNamed B.named, atoms_spec (ws := wsX5_size) B.pre, B.notSynchronized⟩
  have hl := lv_entry ([.ref (ad 4)]) (n := 1) (Nat.le_of_ble_eq_true rfl)
  rw [lg_entry_eq]
  generalize (lg_sl ([.ref (ad 4)]) ++ List.replicate (1 - (lg_sl ([.ref (ad 4)])).length) Slot.unset).toArray = ls at hl ⊢
  exact w_X5_size_0 hm ⟨Nat.le_refl _, Nat.le_refl _⟩ hK hD σ hf _ _ _ hP va_S.rf hl
/-! CallGraphs$Ops.knows(II)Z -/
theorem in_X5_knows_X5 : ∀ w ∈ u_ws RX5 TX5 6, w ∈ wsX5_knows := fun w h => List.mem_cons_of_mem _ (List.mem_append_right _ h)
def p_X5_knows_19 (σ : SS) (t0 : Int32) : Option (Int32) := ob t0 (some t0)
set_option maxHeartbeats 4000000 in
set_option maxRecDepth 100000 in
theorem w_X5_knows_19 {p : Program} {l : Launch} {e : Env} {R : Room} {s : State} {m : MethodId} {args : Array Value} {below : List Frame} {meth : Method} {c : Code} {D : va_G} {ad : Nat → Nat} {cI cJ cZ : ClassId} {res : Int32} (hm : mx p s m args meth c cX5_knows 3 (some .boolean) wsX5_knows RX5) (hR : 0 ≤ R.frames ∧ 0 ≤ R.locals) (hK : va_K D vwCl (tyw cI cJ cZ) s) (hD : ∀ σ, va_D (aC ad) (wC ad cI cJ cZ σ)) (σ : SS) (t0 : Int32) (hf : p_X5_knows_19 σ t0 = some res) (H : Heap) (locs : List Loc) (ls : Array Slot) (hP : va_P D vwCl (wC ad cI cJ cZ σ) H) (hS : va_S (aC ad) s.heap H locs) (hl : lv_has ls 3 []) : W p l e R s m args below meth c H locs 0 0 (MQ below (va_Qi (fun (r : Int32) (u : SS) => r = res ∧ u = σ) (fun u t => va_P D vwCl (wC ad cI cJ cZ u) t.heap) (aC ad)) args s 0 0 (aC ad)) (F0 m 19 ls [.int t0]) := by
  obtain ⟨hx, hb, hr, hml, hown, hts, hlk⟩ := id hm
  unfold p_X5_knows_19 at hf
  obtain ⟨h_19, hf⟩ := ob_e hf
  exact rt_z (wd := wC ad cI cJ cZ) hx hb hr hlk h_19 ⟨Option.some.inj hf, rfl⟩ hP hS dX5_knows_19
def p_X5_knows_18 (σ : SS) : Option (Int32) := p_X5_knows_19 σ 0
set_option maxHeartbeats 4000000 in
set_option maxRecDepth 100000 in
theorem w_X5_knows_18 {p : Program} {l : Launch} {e : Env} {R : Room} {s : State} {m : MethodId} {args : Array Value} {below : List Frame} {meth : Method} {c : Code} {D : va_G} {ad : Nat → Nat} {cI cJ cZ : ClassId} {res : Int32} (hm : mx p s m args meth c cX5_knows 3 (some .boolean) wsX5_knows RX5) (hR : 0 ≤ R.frames ∧ 0 ≤ R.locals) (hK : va_K D vwCl (tyw cI cJ cZ) s) (hD : ∀ σ, va_D (aC ad) (wC ad cI cJ cZ σ)) (σ : SS) (hf : p_X5_knows_18 σ = some res) (H : Heap) (locs : List Loc) (ls : Array Slot) (hP : va_P D vwCl (wC ad cI cJ cZ σ) H) (hS : va_S (aC ad) s.heap H locs) (hl : lv_has ls 3 []) : W p l e R s m args below meth c H locs 0 0 (MQ below (va_Qi (fun (r : Int32) (u : SS) => r = res ∧ u = σ) (fun u t => va_P D vwCl (wC ad cI cJ cZ u) t.heap) (aC ad)) args s 0 0 (aC ad)) (F0 m 18 ls []) := by
  obtain ⟨hx, hb, hr, hml, hown, hts, hlk⟩ := id hm
  unfold p_X5_knows_18 at hf
  refine lv_iconst (v := 0) hx hb dX5_knows_18 (by decide) ?_
  exact w_X5_knows_19 hm hR hK hD σ 0 hf _ _ _ hP hS (lv_sub hl [] rfl)
def p_X5_knows_0 (σ : SS) (v1 : Int32) (v2 : Int32) : Option (Int32) := if v2 < 0 then p_X5_knows_18 σ else oi v1 48 (if (σ.1 22 v1.toNatClampNeg) ≤ v2 then p_X5_knows_18 σ else p_X5_knows_19 σ 1)
set_option maxHeartbeats 4000000 in
set_option maxRecDepth 100000 in
theorem w_X5_knows_0 {p : Program} {l : Launch} {e : Env} {R : Room} {s : State} {m : MethodId} {args : Array Value} {below : List Frame} {meth : Method} {c : Code} {D : va_G} {ad : Nat → Nat} {cI cJ cZ : ClassId} {res : Int32} (hm : mx p s m args meth c cX5_knows 3 (some .boolean) wsX5_knows RX5) (hR : 0 ≤ R.frames ∧ 0 ≤ R.locals) (hK : va_K D vwCl (tyw cI cJ cZ) s) (hD : ∀ σ, va_D (aC ad) (wC ad cI cJ cZ σ)) (σ : SS) (v1 : Int32) (v2 : Int32) (hf : p_X5_knows_0 σ v1 v2 = some res) (H : Heap) (locs : List Loc) (ls : Array Slot) (hP : va_P D vwCl (wC ad cI cJ cZ σ) H) (hS : va_S (aC ad) s.heap H locs) (hl : lv_has ls 3 [(0, .ref (ad 4)), (1, .int v1), (2, .int v2)]) : W p l e R s m args below meth c H locs 0 0 (MQ below (va_Qi (fun (r : Int32) (u : SS) => r = res ∧ u = σ) (fun u t => va_P D vwCl (wC ad cI cJ cZ u) t.heap) (aC ad)) args s 0 0 (aC ad)) (F0 m 0 ls []) := by
  obtain ⟨hx, hb, hr, hml, hown, hts, hlk⟩ := id hm
  unfold p_X5_knows_0 at hf
  refine lv_iload_n hx hb dX5_knows_0 rfl (lv_at hl 2 rfl) ?_
  refine lv_if_lt (tgt := 18) hx hb dX5_knows_1 (by decide) (fun c_1 => ?_) (fun c_1 => ?_)
  · rw [if_pos c_1] at hf
    exact w_X5_knows_18 hm hR hK hD σ hf _ _ _ hP hS (lv_sub hl [] rfl)
  · rw [if_neg c_1] at hf
    refine lv_iload_n hx hb dX5_knows_4 rfl (lv_at hl 2 rfl) ?_
    refine lv_aload_n hx hb dX5_knows_5 rfl (lv_at hl 0 rfl) ?_
    refine va_get (D := D) (ci := 4) (v := .ref (ad 22)) (C := RX5) (T := TX5) (N := 6) hx hb hts in_X5_knows_X5 hown hK hP 4 (wC_4 _ _ _ _ _) rfl 3 (by decide) (hts (.fieldLink RX5 21 "CallGraphs$Ops" "counts" "[I") (List.mem_of_getElem? (i := 1) rfl)) (fun _ h9 => h9) (fC_4_3 _ _) dX5_knows_6 ?_
    refine lv_iload_n hx hb dX5_knows_9 rfl (lv_at hl 1 rfl) ?_
    obtain ⟨h_10, hf⟩ := oi_e hf
    refine va_iald hx hb hK hP 22 0 (wC_22 _ _ _ _ _) rfl h_10 dX5_knows_10 ?_
    refine lv_icmp_ge (tgt := 18) hx hb dX5_knows_11 (by decide) (fun c_11 => ?_) (fun c_11 => ?_)
    · rw [if_pos c_11] at hf
      exact w_X5_knows_18 hm hR hK hD σ hf _ _ _ hP hS (lv_sub hl [] rfl)
    · rw [if_neg c_11] at hf
      refine lv_iconst (v := 1) hx hb dX5_knows_14 (by decide) ?_
      refine lv_goto (tgt := 19) hx hb dX5_knows_15 (by decide) ?_
      exact w_X5_knows_19 hm hR hK hD σ 1 hf _ _ _ hP hS (lv_sub hl [] rfl)
theorem hd_X5_knows : yX5_knows.cls = RX5 ∧ yX5_knows.cls ≠ "java/lang/invoke/MethodHandle" ∧ yX5_knows.cls ≠ "java/lang/invoke/VarHandle" ∧ (parseMethodDescriptor yX5_knows.desc).map (fun d => d.parameters.length) = some 2 := by decide +kernel
set_option maxHeartbeats 4000000 in
set_option maxRecDepth 100000 in
theorem c_X5_knows (l : Launch) (D : va_G) (ad : Nat → Nat) (cI cJ cZ : ClassId) (σ : SS) (v1 : Int32) (v2 : Int32) {res : Int32} (hf : p_X5_knows_0 σ v1 v2 = some res) : Met l yX5_knows wsX5_knows ({ frames := 0, cells := 0, slots := 0, locals := 0 } : Room) (PW D (tyw cI cJ cZ) (wC ad cI cJ cZ σ) [.ref (ad 4), .int v1, .int v2]) (va_Qi (fun (r : Int32) (u : SS) => r = res ∧ u = σ) (fun u t => va_P D vwCl (wC ad cI cJ cZ u) t.heap) (aC ad)) 0 0 (aC ad) := by
  refine Met.ofW (cc := cX5_knows) (maxL := 3) (ret := (some .boolean)) (by decide) rfl ?_
  intro p e s m args below meth c s₁ B hml hv
  obtain ⟨rfl, hP, hK, hD0⟩ := hv
  have hD : ∀ σ, va_D (aC ad) (wC ad cI cJ cZ σ) := fun σ => wd_D hD0 (wC_map _ _ _ _ _) (wC_map _ _ _ _ _)
  have hm : mx p s m _ meth c cX5_knows 3 (some .boolean) wsX5_knows RX5 := ⟨B.exec, B.bytes, B.returns, hml, findClass_of_methodNamed B.named, atoms_spec (ws := wsX5_knows) B.pre, B.notSynchronized⟩
  have hl := lv_entry ([.ref (ad 4), .int v1, .int v2]) (n := 3) (Nat.le_of_ble_eq_true rfl)
  rw [lg_entry_eq]
  generalize (lg_sl ([.ref (ad 4), .int v1, .int v2]) ++ List.replicate (3 - (lg_sl ([.ref (ad 4), .int v1, .int v2])).length) Slot.unset).toArray = ls at hl ⊢
  exact w_X5_knows_0 hm ⟨Nat.le_refl _, Nat.le_refl _⟩ hK hD σ v1 v2 hf _ _ _ hP va_S.rf hl
/-! CallGraphs$Ops.add(IIII)I -/
theorem in_X5_add_X5 : ∀ w ∈ u_ws RX5 TX5 6, w ∈ wsX5_add := fun w h => List.mem_cons_of_mem _ (List.mem_append_right _ h)
def p_X5_add_0 (v1 : Int32) (v2 : Int32) (v3 : Int32) (v4 : Int32) (σ : SS) : Option (Int32 × SS) := oi v1 48 (oi (σ.1 4 5) 160 (os (sI σ 19 ((σ.1 4 5).toNatClampNeg) v2) (fun s_17 => oi (s_17.1 4 5) 160 (os (sI s_17 20 ((s_17.1 4 5).toNatClampNeg) v3) (fun s_27 => oi (s_27.1 4 5) 160 (os (sI s_27 21 ((s_27.1 4 5).toNatClampNeg) v4) (fun s_38 => oi ((v1 * 24) + (σ.1 22 v1.toNatClampNeg)) 1152 (os (sI s_38 23 (((v1 * 24) + (σ.1 22 v1.toNatClampNeg)).toNatClampNeg) (s_38.1 4 5)) (fun s_54 => os (sI s_54 4 5 ((s_54.1 4 5) + 1)) (fun s_62 => oi v1 48 (oi v1 48 (os (sI s_62 22 (v1.toNatClampNeg) ((s_62.1 22 v1.toNatClampNeg) + 1)) (fun s_74 => some ((σ.1 22 v1.toNatClampNeg), s_74))))))))))))))
set_option maxHeartbeats 4000000 in
set_option maxRecDepth 100000 in
theorem w_X5_add_0 {p : Program} {l : Launch} {e : Env} {R : Room} {s : State} {m : MethodId} {args : Array Value} {below : List Frame} {meth : Method} {c : Code} {D : va_G} {ad : Nat → Nat} {cI cJ cZ : ClassId} {res : Int32 × SS} (hm : mx p s m args meth c cX5_add 6 (some .int) wsX5_add RX5) (hR : 0 ≤ R.frames ∧ 0 ≤ R.locals) (hK : va_K D vwCl (tyw cI cJ cZ) s) (hD : ∀ σ, va_D (aC ad) (wC ad cI cJ cZ σ)) (v1 : Int32) (v2 : Int32) (v3 : Int32) (v4 : Int32) (σ : SS) (hf : p_X5_add_0 v1 v2 v3 v4 σ = some res) (H : Heap) (locs : List Loc) (ls : Array Slot) (hP : va_P D vwCl (wC ad cI cJ cZ σ) H) (hS : va_S (aC ad) s.heap H locs) (hl : lv_has ls 6 [(0, .ref (ad 4)), (1, .int v1), (2, .int v2), (3, .int v3), (4, .int v4)]) : W p l e R s m args below meth c H locs 0 0 (MQ below (va_Qi (fun (r : Int32) (u : SS) => (r, u) = res) (fun u t => va_P D vwCl (wC ad cI cJ cZ u) t.heap) (aC ad)) args s 0 0 (aC ad)) (F0 m 0 ls []) := by
  obtain ⟨hx, hb, hr, hml, hown, hts, hlk⟩ := id hm
  unfold p_X5_add_0 at hf
  refine lv_aload_n hx hb dX5_add_0 rfl (lv_at hl 0 rfl) ?_
  refine va_get (D := D) (ci := 4) (v := .ref (ad 22)) (C := RX5) (T := TX5) (N := 6) hx hb hts in_X5_add_X5 hown hK hP 4 (wC_4 _ _ _ _ _) rfl 3 (by decide) (hts (.fieldLink RX5 21 "CallGraphs$Ops" "counts" "[I") (List.mem_of_getElem? (i := 1) rfl)) (fun _ h9 => h9) (fC_4_3 _ _) dX5_add_1 ?_
  refine lv_iload_n hx hb dX5_add_4 rfl (lv_at hl 1 rfl) ?_
  obtain ⟨h_5, hf⟩ := oi_e hf
  refine va_iald hx hb hK hP 22 0 (wC_22 _ _ _ _ _) rfl h_5 dX5_add_5 ?_
  refine lv_istore (lv' := [(5, .int (σ.1 22 v1.toNatClampNeg)), (0, .ref (ad 4)), (1, .int v1), (2, .int v2), (3, .int v3), (4, .int v4)]) hx hb dX5_add_6 hl (by decide) rfl (fun ls hl => ?_)
  refine lv_aload_n hx hb dX5_add_8 rfl (lv_at hl 1 rfl) ?_
  refine va_get (D := D) (ci := 4) (v := .ref (ad 19)) (C := RX5) (T := TX5) (N := 6) hx hb hts in_X5_add_X5 hown hK hP 4 (wC_4 _ _ _ _ _) rfl 0 (by decide) (hts (.fieldLink RX5 9 "CallGraphs$Ops" "kinds" "[I") (List.mem_of_getElem? (i := 2) rfl)) (fun _ h9 => h9) (fC_4_0 _ _) dX5_add_9 ?_
  refine lv_aload_n hx hb dX5_add_12 rfl (lv_at hl 1 rfl) ?_
  refine va_get (D := D) (ci := 4) (v := .int (σ.1 4 5)) (C := RX5) (T := TX5) (N := 6) hx hb hts in_X5_add_X5 hown hK hP 4 (wC_4 _ _ _ _ _) rfl 5 (by decide) (hts (.fieldLink RX5 27 "CallGraphs$Ops" "count" "I") (List.mem_of_getElem? (i := 3) rfl)) (fun _ h9 => h9) (fC_4_5 _ _) dX5_add_13 ?_
  refine lv_iload_n hx hb dX5_add_16 rfl (lv_at hl 3 rfl) ?_
  obtain ⟨h_17, hf⟩ := oi_e hf
  refine va_iast hx hb hK hP (hD _) hS 19 0 (wC_19 _ _ _ _ _) rfl h_17 dX5_add_17 (fun H locs hP _ hS => ?_)
  have hP := wC_s19 hP
  obtain ⟨s_17, es_17, hf⟩ := os_e hf
  rw [← es_17] at hP
  refine lv_aload_n hx hb dX5_add_18 rfl (lv_at hl 1 rfl) ?_
  refine va_get (D := D) (ci := 4) (v := .ref (ad 20)) (C := RX5) (T := TX5) (N := 6) hx hb hts in_X5_add_X5 hown hK hP 4 (wC_4 _ _ _ _ _) rfl 1 (by decide) (hts (.fieldLink RX5 15 "CallGraphs$Ops" "as" "[I") (List.mem_of_getElem? (i := 4) rfl)) (fun _ h9 => h9) (fC_4_1 _ _) dX5_add_19 ?_
  refine lv_aload_n hx hb dX5_add_22 rfl (lv_at hl 1 rfl) ?_
  refine va_get (D := D) (ci := 4) (v := .int (s_17.1 4 5)) (C := RX5) (T := TX5) (N := 6) hx hb hts in_X5_add_X5 hown hK hP 4 (wC_4 _ _ _ _ _) rfl 5 (by decide) (hts (.fieldLink RX5 27 "CallGraphs$Ops" "count" "I") (List.mem_of_getElem? (i := 3) rfl)) (fun _ h9 => h9) (fC_4_5 _ _) dX5_add_23 ?_
  refine lv_iload_n hx hb dX5_add_26 rfl (lv_at hl 4 rfl) ?_
  obtain ⟨h_27, hf⟩ := oi_e hf
  refine va_iast hx hb hK hP (hD _) hS 20 0 (wC_20 _ _ _ _ _) rfl h_27 dX5_add_27 (fun H locs hP _ hS => ?_)
  have hP := wC_s20 hP
  obtain ⟨s_27, es_27, hf⟩ := os_e hf
  rw [← es_27] at hP
  refine lv_aload_n hx hb dX5_add_28 rfl (lv_at hl 1 rfl) ?_
  refine va_get (D := D) (ci := 4) (v := .ref (ad 21)) (C := RX5) (T := TX5) (N := 6) hx hb hts in_X5_add_X5 hown hK hP 4 (wC_4 _ _ _ _ _) rfl 2 (by decide) (hts (.fieldLink RX5 18 "CallGraphs$Ops" "bs" "[I") (List.mem_of_getElem? (i := 5) rfl)) (fun _ h9 => h9) (fC_4_2 _ _) dX5_add_29 ?_
  refine lv_aload_n hx hb dX5_add_32 rfl (lv_at hl 1 rfl) ?_
  refine va_get (D := D) (ci := 4) (v := .int (s_27.1 4 5)) (C := RX5) (T := TX5) (N := 6) hx hb hts in_X5_add_X5 hown hK hP 4 (wC_4 _ _ _ _ _) rfl 5 (by decide) (hts (.fieldLink RX5 27 "CallGraphs$Ops" "count" "I") (List.mem_of_getElem? (i := 3) rfl)) (fun _ h9 => h9) (fC_4_5 _ _) dX5_add_33 ?_
  refine lv_iload hx hb dX5_add_36 (lv_at hl 5 rfl) ?_
  obtain ⟨h_38, hf⟩ := oi_e hf
  refine va_iast hx hb hK hP (hD _) hS 21 0 (wC_21 _ _ _ _ _) rfl h_38 dX5_add_38 (fun H locs hP _ hS => ?_)
  have hP := wC_s21 hP
  obtain ⟨s_38, es_38, hf⟩ := os_e hf
  rw [← es_38] at hP
  refine lv_aload_n hx hb dX5_add_39 rfl (lv_at hl 1 rfl) ?_
  refine va_get (D := D) (ci := 4) (v := .ref (ad 23)) (C := RX5) (T := TX5) (N := 6) hx hb hts in_X5_add_X5 hown hK hP 4 (wC_4 _ _ _ _ _) rfl 4 (by decide) (hts (.fieldLink RX5 24 "CallGraphs$Ops" "places" "[I") (List.mem_of_getElem? (i := 6) rfl)) (fun _ h9 => h9) (fC_4_4 _ _) dX5_add_40 ?_
  refine lv_iload_n hx hb dX5_add_43 rfl (lv_at hl 2 rfl) ?_
  refine lv_bipush (v := 24) hx hb dX5_add_44 (by decide) ?_
  refine lv_imul hx hb dX5_add_46 ?_
  refine lv_iload hx hb dX5_add_47 (lv_at hl 0 rfl) ?_
  refine lv_iadd hx hb dX5_add_49 ?_
  refine lv_aload_n hx hb dX5_add_50 rfl (lv_at hl 1 rfl) ?_
  refine va_get (D := D) (ci := 4) (v := .int (s_38.1 4 5)) (C := RX5) (T := TX5) (N := 6) hx hb hts in_X5_add_X5 hown hK hP 4 (wC_4 _ _ _ _ _) rfl 5 (by decide) (hts (.fieldLink RX5 27 "CallGraphs$Ops" "count" "I") (List.mem_of_getElem? (i := 3) rfl)) (fun _ h9 => h9) (fC_4_5 _ _) dX5_add_51 ?_
  obtain ⟨h_54, hf⟩ := oi_e hf
  refine va_iast hx hb hK hP (hD _) hS 23 0 (wC_23 _ _ _ _ _) rfl h_54 dX5_add_54 (fun H locs hP _ hS => ?_)
  have hP := wC_s23 hP
  obtain ⟨s_54, es_54, hf⟩ := os_e hf
  rw [← es_54] at hP
  refine lv_aload_n hx hb dX5_add_55 rfl (lv_at hl 1 rfl) ?_
  refine lv_dup hx hb dX5_add_56 rfl ?_
  refine va_get (D := D) (ci := 4) (v := .int (s_54.1 4 5)) (C := RX5) (T := TX5) (N := 6) hx hb hts in_X5_add_X5 hown hK hP 4 (wC_4 _ _ _ _ _) rfl 5 (by decide) (hts (.fieldLink RX5 27 "CallGraphs$Ops" "count" "I") (List.mem_of_getElem? (i := 3) rfl)) (fun _ h9 => h9) (fC_4_5 _ _) dX5_add_57 ?_
  refine lv_iconst (v := 1) hx hb dX5_add_60 (by decide) ?_
  refine lv_iadd hx hb dX5_add_61 ?_
  refine va_put (D := D) (ci := 4) (v := .int ((s_54.1 4 5) + 1)) (ty := .int) (C := RX5) (T := TX5) (N := 6) hx hb hts in_X5_add_X5 tyX5 tyX5_ok nmX5 hown hK hP (hD _) hS 4 (wC_4 _ _ _ _ _) rfl 5 (by decide) (hts (.fieldLink RX5 27 "CallGraphs$Ops" "count" "I") (List.mem_of_getElem? (i := 3) rfl)) (fun _ h9 => h9) rfl (tyX5_ok 5 (by decide)) rfl rfl (Nat.le_of_ble_eq_true rfl) dX5_add_62 (fun H locs hP _ hS => ?_)
  have hP := wC_p4_5 hP
  obtain ⟨s_62, es_62, hf⟩ := os_e hf
  rw [← es_62] at hP
  refine lv_aload_n hx hb dX5_add_65 rfl (lv_at hl 1 rfl) ?_
  refine va_get (D := D) (ci := 4) (v := .ref (ad 22)) (C := RX5) (T := TX5) (N := 6) hx hb hts in_X5_add_X5 hown hK hP 4 (wC_4 _ _ _ _ _) rfl 3 (by decide) (hts (.fieldLink RX5 21 "CallGraphs$Ops" "counts" "[I") (List.mem_of_getElem? (i := 1) rfl)) (fun _ h9 => h9) (fC_4_3 _ _) dX5_add_66 ?_
  refine lv_iload_n hx hb dX5_add_69 rfl (lv_at hl 2 rfl) ?_
  refine lv_dup2_11 hx hb dX5_add_70 rfl rfl ?_
  obtain ⟨h_71, hf⟩ := oi_e hf
  refine va_iald hx hb hK hP 22 0 (wC_22 _ _ _ _ _) rfl h_71 dX5_add_71 ?_
  refine lv_iconst (v := 1) hx hb dX5_add_72 (by decide) ?_
  refine lv_iadd hx hb dX5_add_73 ?_
  obtain ⟨h_74, hf⟩ := oi_e hf
  refine va_iast hx hb hK hP (hD _) hS 22 0 (wC_22 _ _ _ _ _) rfl h_74 dX5_add_74 (fun H locs hP _ hS => ?_)
  have hP := wC_s22 hP
  obtain ⟨s_74, es_74, hf⟩ := os_e hf
  rw [← es_74] at hP
  refine lv_iload hx hb dX5_add_75 (lv_at hl 0 rfl) ?_
  exact rt_i (wd := wC ad cI cJ cZ) hx hb hr hlk (Option.some.inj hf) hP hS dX5_add_77
theorem hd_X5_add : yX5_add.cls = RX5 ∧ yX5_add.cls ≠ "java/lang/invoke/MethodHandle" ∧ yX5_add.cls ≠ "java/lang/invoke/VarHandle" ∧ (parseMethodDescriptor yX5_add.desc).map (fun d => d.parameters.length) = some 4 := by decide +kernel
set_option maxHeartbeats 4000000 in
set_option maxRecDepth 100000 in
theorem c_X5_add (l : Launch) (D : va_G) (ad : Nat → Nat) (cI cJ cZ : ClassId) (σ : SS) (v1 : Int32) (v2 : Int32) (v3 : Int32) (v4 : Int32) {res : Int32 × SS} (hf : p_X5_add_0 v1 v2 v3 v4 σ = some res) : Met l yX5_add wsX5_add ({ frames := 0, cells := 0, slots := 0, locals := 0 } : Room) (PW D (tyw cI cJ cZ) (wC ad cI cJ cZ σ) [.ref (ad 4), .int v1, .int v2, .int v3, .int v4]) (va_Qi (fun (r : Int32) (u : SS) => (r, u) = res) (fun u t => va_P D vwCl (wC ad cI cJ cZ u) t.heap) (aC ad)) 0 0 (aC ad) := by
  refine Met.ofW (cc := cX5_add) (maxL := 6) (ret := (some .int)) (by decide) rfl ?_
  intro p e s m args below meth c s₁ B hml hv
  obtain ⟨rfl, hP, hK, hD0⟩ := hv
  have hD : ∀ σ, va_D (aC ad) (wC ad cI cJ cZ σ) := fun σ => wd_D hD0 (wC_map _ _ _ _ _) (wC_map _ _ _ _ _)
  have hm : mx p s m _ meth c cX5_add 6 (some .int) wsX5_add RX5 := ⟨B.exec, B.bytes, B.returns, hml, findClass_of_methodNamed B.named, atoms_spec (ws := wsX5_add) B.pre, B.notSynchronized⟩
  have hl := lv_entry ([.ref (ad 4), .int v1, .int v2, .int v3, .int v4]) (n := 6) (Nat.le_of_ble_eq_true rfl)
  rw [lg_entry_eq]
  generalize (lg_sl ([.ref (ad 4), .int v1, .int v2, .int v3, .int v4]) ++ List.replicate (6 - (lg_sl ([.ref (ad 4), .int v1, .int v2, .int v3, .int v4])).length) Slot.unset).toArray = ls at hl ⊢
  exact w_X5_add_0 hm ⟨Nat.le_refl _, Nat.le_refl _⟩ hK hD v1 v2 v3 v4 σ hf _ _ _ hP va_S.rf hl
