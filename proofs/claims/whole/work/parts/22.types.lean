/-! CallGraphs$Types.above(I)J -/
theorem in_X6_above_X6 : ∀ w ∈ u_ws RX6 TX6 6, w ∈ wsX6_above := fun w h => List.mem_cons_of_mem _ (List.mem_append_right _ h)
def p_X6_above_0 (σ : SS) (v1 : Int32) : Option (Int64) := oi v1 16 (some (σ.2 10 v1.toNatClampNeg))
set_option maxHeartbeats 4000000 in
set_option maxRecDepth 100000 in
theorem w_X6_above_0 {p : Program} {l : Launch} {e : Env} {R : Room} {s : State} {m : MethodId} {args : Array Value} {below : List Frame} {meth : Method} {c : Code} {D : va_G} {ad : Nat → Nat} {cI cJ cZ : ClassId} {res : Int64} (hm : mx p s m args meth c cX6_above 2 (some .long) wsX6_above RX6) (hR : 0 ≤ R.frames ∧ 0 ≤ R.locals) (hK : va_K D vwCl (tyw cI cJ cZ) s) (hD : ∀ σ, va_D (aC ad) (wC ad cI cJ cZ σ)) (σ : SS) (v1 : Int32) (hf : p_X6_above_0 σ v1 = some res) (H : Heap) (locs : List Loc) (ls : Array Slot) (hP : va_P D vwCl (wC ad cI cJ cZ σ) H) (hS : va_S (aC ad) s.heap H locs) (hl : lv_has ls 2 [(0, .ref (ad 1)), (1, .int v1)]) : W p l e R s m args below meth c H locs 0 0 (MQ below (va_Ql (fun (r : Int64) (u : SS) => r = res ∧ u = σ) (fun u t => va_P D vwCl (wC ad cI cJ cZ u) t.heap) (aC ad)) args s 0 0 (aC ad)) (F0 m 0 ls []) := by
  obtain ⟨hx, hb, hr, hml, hown, hts, hlk⟩ := id hm
  unfold p_X6_above_0 at hf
  refine lv_aload_n hx hb dX6_above_0 rfl (lv_at hl 0 rfl) ?_
  refine va_get (D := D) (ci := 5) (v := .ref (ad 10)) (C := RX6) (T := TX6) (N := 6) hx hb hts in_X6_above_X6 hown hK hP 1 (wC_1 _ _ _ _ _) rfl 3 (by decide) (hts (.fieldLink RX6 22 "CallGraphs$Types" "above" "[J") (List.mem_of_getElem? (i := 1) rfl)) (fun _ h9 => h9) (fC_1_3 _ _) dX6_above_1 ?_
  refine lv_iload_n hx hb dX6_above_4 rfl (lv_at hl 1 rfl) ?_
  obtain ⟨h_5, hf⟩ := oi_e hf
  refine va_lald hx hb hK hP 10 1 (wC_10 _ _ _ _ _) rfl h_5 dX6_above_5 ?_
  exact rt_l (wd := wC ad cI cJ cZ) hx hb hr hlk ⟨Option.some.inj hf, rfl⟩ hP hS dX6_above_6
theorem hd_X6_above : yX6_above.cls = RX6 ∧ yX6_above.cls ≠ "java/lang/invoke/MethodHandle" ∧ yX6_above.cls ≠ "java/lang/invoke/VarHandle" ∧ (parseMethodDescriptor yX6_above.desc).map (fun d => d.parameters.length) = some 1 := by decide +kernel
set_option maxHeartbeats 4000000 in
set_option maxRecDepth 100000 in
theorem c_X6_above (l : Launch) (D : va_G) (ad : Nat → Nat) (cI cJ cZ : ClassId) (σ : SS) (v1 : Int32) {res : Int64} (hf : p_X6_above_0 σ v1 = some res) : Met l yX6_above wsX6_above ({ frames := 0, cells := 0, slots := 0, locals := 0 } : Room) (PW D (tyw cI cJ cZ) (wC ad cI cJ cZ σ) [.ref (ad 1), .int v1]) (va_Ql (fun (r : Int64) (u : SS) => r = res ∧ u = σ) (fun u t => va_P D vwCl (wC ad cI cJ cZ u) t.heap) (aC ad)) 0 0 (aC ad) := by
  refine Met.ofW (cc := cX6_above) (maxL := 2) (ret := (some .long)) (by decide) rfl ?_
  intro p e s m args below meth c s₁ B hml hv
  obtain ⟨rfl, hP, hK, hD0⟩ := hv
  have hD : ∀ σ, va_D (aC ad) (wC ad cI cJ cZ σ) := fun σ => wd_D hD0 (wC_map _ _ _ _ _) (wC_map _ _ _ _ _)
  have hm : mx p s m _ meth c cX6_above 2 (some .long) wsX6_above RX6 := ⟨B.exec, B.bytes, B.returns, hml, findClass_of_methodNamed B.named, atoms_spec (ws := wsX6_above) B.pre, B.notSynchronized⟩
  have hl := lv_entry ([.ref (ad 1), .int v1]) (n := 2) (Nat.le_of_ble_eq_true rfl)
  rw [lg_entry_eq]
  generalize (lg_sl ([.ref (ad 1), .int v1]) ++ List.replicate (2 - (lg_sl ([.ref (ad 1), .int v1])).length) Slot.unset).toArray = ls at hl ⊢
  exact w_X6_above_0 hm ⟨Nat.le_refl _, Nat.le_refl _⟩ hK hD σ v1 hf _ _ _ hP va_S.rf hl
/-! CallGraphs$Types.facesAbove(I)J -/
theorem in_X6_facesAbove_X6 : ∀ w ∈ u_ws RX6 TX6 6, w ∈ wsX6_facesAbove := fun w h => List.mem_cons_of_mem _ (List.mem_append_right _ h)
def p_X6_facesAbove_0 (σ : SS) (v1 : Int32) : Option (Int64) := oi v1 16 (some ((σ.2 10 v1.toNatClampNeg) &&& (σ.2 1 4)))
set_option maxHeartbeats 4000000 in
set_option maxRecDepth 100000 in
theorem w_X6_facesAbove_0 {p : Program} {l : Launch} {e : Env} {R : Room} {s : State} {m : MethodId} {args : Array Value} {below : List Frame} {meth : Method} {c : Code} {D : va_G} {ad : Nat → Nat} {cI cJ cZ : ClassId} {res : Int64} (hm : mx p s m args meth c cX6_facesAbove 2 (some .long) wsX6_facesAbove RX6) (hR : 0 ≤ R.frames ∧ 0 ≤ R.locals) (hK : va_K D vwCl (tyw cI cJ cZ) s) (hD : ∀ σ, va_D (aC ad) (wC ad cI cJ cZ σ)) (σ : SS) (v1 : Int32) (hf : p_X6_facesAbove_0 σ v1 = some res) (H : Heap) (locs : List Loc) (ls : Array Slot) (hP : va_P D vwCl (wC ad cI cJ cZ σ) H) (hS : va_S (aC ad) s.heap H locs) (hl : lv_has ls 2 [(0, .ref (ad 1)), (1, .int v1)]) : W p l e R s m args below meth c H locs 0 0 (MQ below (va_Ql (fun (r : Int64) (u : SS) => r = res ∧ u = σ) (fun u t => va_P D vwCl (wC ad cI cJ cZ u) t.heap) (aC ad)) args s 0 0 (aC ad)) (F0 m 0 ls []) := by
  obtain ⟨hx, hb, hr, hml, hown, hts, hlk⟩ := id hm
  unfold p_X6_facesAbove_0 at hf
  refine lv_aload_n hx hb dX6_facesAbove_0 rfl (lv_at hl 0 rfl) ?_
  refine va_get (D := D) (ci := 5) (v := .ref (ad 10)) (C := RX6) (T := TX6) (N := 6) hx hb hts in_X6_facesAbove_X6 hown hK hP 1 (wC_1 _ _ _ _ _) rfl 3 (by decide) (hts (.fieldLink RX6 22 "CallGraphs$Types" "above" "[J") (List.mem_of_getElem? (i := 1) rfl)) (fun _ h9 => h9) (fC_1_3 _ _) dX6_facesAbove_1 ?_
  refine lv_iload_n hx hb dX6_facesAbove_4 rfl (lv_at hl 1 rfl) ?_
  obtain ⟨h_5, hf⟩ := oi_e hf
  refine va_lald hx hb hK hP 10 1 (wC_10 _ _ _ _ _) rfl h_5 dX6_facesAbove_5 ?_
  refine lv_aload_n hx hb dX6_facesAbove_6 rfl (lv_at hl 0 rfl) ?_
  refine va_get (D := D) (ci := 5) (v := .long (σ.2 1 4)) (C := RX6) (T := TX6) (N := 6) hx hb hts in_X6_facesAbove_X6 hown hK hP 1 (wC_1 _ _ _ _ _) rfl 4 (by decide) (hts (.fieldLink RX6 41 "CallGraphs$Types" "allFaces" "J") (List.mem_of_getElem? (i := 2) rfl)) (fun _ h9 => h9) (fC_1_4 _ _) dX6_facesAbove_7 ?_
  refine lv_land hx hb dX6_facesAbove_10 ?_
  exact rt_l (wd := wC ad cI cJ cZ) hx hb hr hlk ⟨Option.some.inj hf, rfl⟩ hP hS dX6_facesAbove_11
theorem hd_X6_facesAbove : yX6_facesAbove.cls = RX6 ∧ yX6_facesAbove.cls ≠ "java/lang/invoke/MethodHandle" ∧ yX6_facesAbove.cls ≠ "java/lang/invoke/VarHandle" ∧ (parseMethodDescriptor yX6_facesAbove.desc).map (fun d => d.parameters.length) = some 1 := by decide +kernel
set_option maxHeartbeats 4000000 in
set_option maxRecDepth 100000 in
theorem c_X6_facesAbove (l : Launch) (D : va_G) (ad : Nat → Nat) (cI cJ cZ : ClassId) (σ : SS) (v1 : Int32) {res : Int64} (hf : p_X6_facesAbove_0 σ v1 = some res) : Met l yX6_facesAbove wsX6_facesAbove ({ frames := 0, cells := 0, slots := 0, locals := 0 } : Room) (PW D (tyw cI cJ cZ) (wC ad cI cJ cZ σ) [.ref (ad 1), .int v1]) (va_Ql (fun (r : Int64) (u : SS) => r = res ∧ u = σ) (fun u t => va_P D vwCl (wC ad cI cJ cZ u) t.heap) (aC ad)) 0 0 (aC ad) := by
  refine Met.ofW (cc := cX6_facesAbove) (maxL := 2) (ret := (some .long)) (by decide) rfl ?_
  intro p e s m args below meth c s₁ B hml hv
  obtain ⟨rfl, hP, hK, hD0⟩ := hv
  have hD : ∀ σ, va_D (aC ad) (wC ad cI cJ cZ σ) := fun σ => wd_D hD0 (wC_map _ _ _ _ _) (wC_map _ _ _ _ _)
  have hm : mx p s m _ meth c cX6_facesAbove 2 (some .long) wsX6_facesAbove RX6 := ⟨B.exec, B.bytes, B.returns, hml, findClass_of_methodNamed B.named, atoms_spec (ws := wsX6_facesAbove) B.pre, B.notSynchronized⟩
  have hl := lv_entry ([.ref (ad 1), .int v1]) (n := 2) (Nat.le_of_ble_eq_true rfl)
  rw [lg_entry_eq]
  generalize (lg_sl ([.ref (ad 1), .int v1]) ++ List.replicate (2 - (lg_sl ([.ref (ad 1), .int v1])).length) Slot.unset).toArray = ls at hl ⊢
  exact w_X6_facesAbove_0 hm ⟨Nat.le_refl _, Nat.le_refl _⟩ hK hD σ v1 hf _ _ _ hP va_S.rf hl
/-! CallGraphs$Types.superOf(I)I -/
theorem in_X6_superOf_X6 : ∀ w ∈ u_ws RX6 TX6 6, w ∈ wsX6_superOf := fun w h => List.mem_cons_of_mem _ (List.mem_append_right _ h)
def p_X6_superOf_0 (σ : SS) (v1 : Int32) : Option (Int32) := oi v1 16 (some (σ.1 8 v1.toNatClampNeg))
set_option maxHeartbeats 4000000 in
set_option maxRecDepth 100000 in
theorem w_X6_superOf_0 {p : Program} {l : Launch} {e : Env} {R : Room} {s : State} {m : MethodId} {args : Array Value} {below : List Frame} {meth : Method} {c : Code} {D : va_G} {ad : Nat → Nat} {cI cJ cZ : ClassId} {res : Int32} (hm : mx p s m args meth c cX6_superOf 2 (some .int) wsX6_superOf RX6) (hR : 0 ≤ R.frames ∧ 0 ≤ R.locals) (hK : va_K D vwCl (tyw cI cJ cZ) s) (hD : ∀ σ, va_D (aC ad) (wC ad cI cJ cZ σ)) (σ : SS) (v1 : Int32) (hf : p_X6_superOf_0 σ v1 = some res) (H : Heap) (locs : List Loc) (ls : Array Slot) (hP : va_P D vwCl (wC ad cI cJ cZ σ) H) (hS : va_S (aC ad) s.heap H locs) (hl : lv_has ls 2 [(0, .ref (ad 1)), (1, .int v1)]) : W p l e R s m args below meth c H locs 0 0 (MQ below (va_Qi (fun (r : Int32) (u : SS) => r = res ∧ u = σ) (fun u t => va_P D vwCl (wC ad cI cJ cZ u) t.heap) (aC ad)) args s 0 0 (aC ad)) (F0 m 0 ls []) := by
  obtain ⟨hx, hb, hr, hml, hown, hts, hlk⟩ := id hm
  unfold p_X6_superOf_0 at hf
  refine lv_aload_n hx hb dX6_superOf_0 rfl (lv_at hl 0 rfl) ?_
  refine va_get (D := D) (ci := 5) (v := .ref (ad 8)) (C := RX6) (T := TX6) (N := 6) hx hb hts in_X6_superOf_X6 hown hK hP 1 (wC_1 _ _ _ _ _) rfl 1 (by decide) (hts (.fieldLink RX6 15 "CallGraphs$Types" "supers" "[I") (List.mem_of_getElem? (i := 1) rfl)) (fun _ h9 => h9) (fC_1_1 _ _) dX6_superOf_1 ?_
  refine lv_iload_n hx hb dX6_superOf_4 rfl (lv_at hl 1 rfl) ?_
  obtain ⟨h_5, hf⟩ := oi_e hf
  refine va_iald hx hb hK hP 8 0 (wC_8 _ _ _ _ _) rfl h_5 dX6_superOf_5 ?_
  exact rt_i (wd := wC ad cI cJ cZ) hx hb hr hlk ⟨Option.some.inj hf, rfl⟩ hP hS dX6_superOf_6
theorem hd_X6_superOf : yX6_superOf.cls = RX6 ∧ yX6_superOf.cls ≠ "java/lang/invoke/MethodHandle" ∧ yX6_superOf.cls ≠ "java/lang/invoke/VarHandle" ∧ (parseMethodDescriptor yX6_superOf.desc).map (fun d => d.parameters.length) = some 1 := by decide +kernel
set_option maxHeartbeats 4000000 in
set_option maxRecDepth 100000 in
theorem c_X6_superOf (l : Launch) (D : va_G) (ad : Nat → Nat) (cI cJ cZ : ClassId) (σ : SS) (v1 : Int32) {res : Int32} (hf : p_X6_superOf_0 σ v1 = some res) : Met l yX6_superOf wsX6_superOf ({ frames := 0, cells := 0, slots := 0, locals := 0 } : Room) (PW D (tyw cI cJ cZ) (wC ad cI cJ cZ σ) [.ref (ad 1), .int v1]) (va_Qi (fun (r : Int32) (u : SS) => r = res ∧ u = σ) (fun u t => va_P D vwCl (wC ad cI cJ cZ u) t.heap) (aC ad)) 0 0 (aC ad) := by
  refine Met.ofW (cc := cX6_superOf) (maxL := 2) (ret := (some .int)) (by decide) rfl ?_
  intro p e s m args below meth c s₁ B hml hv
  obtain ⟨rfl, hP, hK, hD0⟩ := hv
  have hD : ∀ σ, va_D (aC ad) (wC ad cI cJ cZ σ) := fun σ => wd_D hD0 (wC_map _ _ _ _ _) (wC_map _ _ _ _ _)
  have hm : mx p s m _ meth c cX6_superOf 2 (some .int) wsX6_superOf RX6 := ⟨B.exec, B.bytes, B.returns, hml, findClass_of_methodNamed B.named, atoms_spec (ws := wsX6_superOf) B.pre, B.notSynchronized⟩
  have hl := lv_entry ([.ref (ad 1), .int v1]) (n := 2) (Nat.le_of_ble_eq_true rfl)
  rw [lg_entry_eq]
  generalize (lg_sl ([.ref (ad 1), .int v1]) ++ List.replicate (2 - (lg_sl ([.ref (ad 1), .int v1])).length) Slot.unset).toArray = ls at hl ⊢
  exact w_X6_superOf_0 hm ⟨Nat.le_refl _, Nat.le_refl _⟩ hK hD σ v1 hf _ _ _ hP va_S.rf hl
/-! CallGraphs$Types.size()I -/
theorem in_X6_size_X6 : ∀ w ∈ u_ws RX6 TX6 6, w ∈ wsX6_size := fun w h => List.mem_cons_of_mem _ (List.mem_append_right _ h)
def p_X6_size_0 (σ : SS) : Option (Int32) := some (σ.1 1 5)
set_option maxHeartbeats 4000000 in
set_option maxRecDepth 100000 in
theorem w_X6_size_0 {p : Program} {l : Launch} {e : Env} {R : Room} {s : State} {m : MethodId} {args : Array Value} {below : List Frame} {meth : Method} {c : Code} {D : va_G} {ad : Nat → Nat} {cI cJ cZ : ClassId} {res : Int32} (hm : mx p s m args meth c cX6_size 1 (some .int) wsX6_size RX6) (hR : 0 ≤ R.frames ∧ 0 ≤ R.locals) (hK : va_K D vwCl (tyw cI cJ cZ) s) (hD : ∀ σ, va_D (aC ad) (wC ad cI cJ cZ σ)) (σ : SS) (hf : p_X6_size_0 σ = some res) (H : Heap) (locs : List Loc) (ls : Array Slot) (hP : va_P D vwCl (wC ad cI cJ cZ σ) H) (hS : va_S (aC ad) s.heap H locs) (hl : lv_has ls 1 [(0, .ref (ad 1))]) : W p l e R s m args below meth c H locs 0 0 (MQ below (va_Qi (fun (r : Int32) (u : SS) => r = res ∧ u = σ) (fun u t => va_P D vwCl (wC ad cI cJ cZ u) t.heap) (aC ad)) args s 0 0 (aC ad)) (F0 m 0 ls []) := by
  obtain ⟨hx, hb, hr, hml, hown, hts, hlk⟩ := id hm
  unfold p_X6_size_0 at hf
  refine lv_aload_n hx hb dX6_size_0 rfl (lv_at hl 0 rfl) ?_
  refine va_get (D := D) (ci := 5) (v := .int (σ.1 1 5)) (C := RX6) (T := TX6) (N := 6) hx hb hts in_X6_size_X6 hown hK hP 1 (wC_1 _ _ _ _ _) rfl 5 (by decide) (hts (.fieldLink RX6 25 "CallGraphs$Types" "count" "I") (List.mem_of_getElem? (i := 1) rfl)) (fun _ h9 => h9) (fC_1_5 _ _) dX6_size_1 ?_
  exact rt_i (wd := wC ad cI cJ cZ) hx hb hr hlk ⟨Option.some.inj hf, rfl⟩ hP hS dX6_size_4
theorem hd_X6_size : yX6_size.cls = RX6 ∧ yX6_size.cls ≠ "java/lang/invoke/MethodHandle" ∧ yX6_size.cls ≠ "java/lang/invoke/VarHandle" ∧ (parseMethodDescriptor yX6_size.desc).map (fun d => d.parameters.length) = some 0 := by decide +kernel
set_option maxHeartbeats 4000000 in
set_option maxRecDepth 100000 in
theorem c_X6_size (l : Launch) (D : va_G) (ad : Nat → Nat) (cI cJ cZ : ClassId) (σ : SS) {res : Int32} (hf : p_X6_size_0 σ = some res) : Met l yX6_size wsX6_size ({ frames := 0, cells := 0, slots := 0, locals := 0 } : Room) (PW D (tyw cI cJ cZ) (wC ad cI cJ cZ σ) [.ref (ad 1)]) (va_Qi (fun (r : Int32) (u : SS) => r = res ∧ u = σ) (fun u t => va_P D vwCl (wC ad cI cJ cZ u) t.heap) (aC ad)) 0 0 (aC ad) := by
  refine Met.ofW (cc := cX6_size) (maxL := 1) (ret := (some .int)) (by decide) rfl ?_
  intro p e s m args below meth c s₁ B hml hv
  obtain ⟨rfl, hP, hK, hD0⟩ := hv
  have hD : ∀ σ, va_D (aC ad) (wC ad cI cJ cZ σ) := fun σ => wd_D hD0 (wC_map _ _ _ _ _) (wC_map _ _ _ _ _)
  have hm : mx p s m _ meth c cX6_size 1 (some .int) wsX6_size RX6 := ⟨B.exec, B.bytes, B.returns, hml, findClass_of_methodNamed B.named, atoms_spec (ws := wsX6_size) B.pre, B.notSynchronized⟩
  have hl := lv_entry ([.ref (ad 1)]) (n := 1) (Nat.le_of_ble_eq_true rfl)
  rw [lg_entry_eq]
  generalize (lg_sl ([.ref (ad 1)]) ++ List.replicate (1 - (lg_sl ([.ref (ad 1)])).length) Slot.unset).toArray = ls at hl ⊢
  exact w_X6_size_0 hm ⟨Nat.le_refl _, Nat.le_refl _⟩ hK hD σ hf _ _ _ hP va_S.rf hl
/-! CallGraphs$Types.isFace(I)Z -/
theorem in_X6_isFace_X6 : ∀ w ∈ u_ws RX6 TX6 6, w ∈ wsX6_isFace := fun w h => List.mem_cons_of_mem _ (List.mem_append_right _ h)
def p_X6_isFace_15 (σ : SS) (t0 : Int32) : Option (Int32) := ob t0 (some t0)
set_option maxHeartbeats 4000000 in
set_option maxRecDepth 100000 in
theorem w_X6_isFace_15 {p : Program} {l : Launch} {e : Env} {R : Room} {s : State} {m : MethodId} {args : Array Value} {below : List Frame} {meth : Method} {c : Code} {D : va_G} {ad : Nat → Nat} {cI cJ cZ : ClassId} {res : Int32} (hm : mx p s m args meth c cX6_isFace 2 (some .boolean) wsX6_isFace RX6) (hR : 0 ≤ R.frames ∧ 0 ≤ R.locals) (hK : va_K D vwCl (tyw cI cJ cZ) s) (hD : ∀ σ, va_D (aC ad) (wC ad cI cJ cZ σ)) (σ : SS) (t0 : Int32) (hf : p_X6_isFace_15 σ t0 = some res) (H : Heap) (locs : List Loc) (ls : Array Slot) (hP : va_P D vwCl (wC ad cI cJ cZ σ) H) (hS : va_S (aC ad) s.heap H locs) (hl : lv_has ls 2 []) : W p l e R s m args below meth c H locs 0 0 (MQ below (va_Qi (fun (r : Int32) (u : SS) => r = res ∧ u = σ) (fun u t => va_P D vwCl (wC ad cI cJ cZ u) t.heap) (aC ad)) args s 0 0 (aC ad)) (F0 m 15 ls [.int t0]) := by
  obtain ⟨hx, hb, hr, hml, hown, hts, hlk⟩ := id hm
  unfold p_X6_isFace_15 at hf
  obtain ⟨h_15, hf⟩ := ob_e hf
  exact rt_z (wd := wC ad cI cJ cZ) hx hb hr hlk h_15 ⟨Option.some.inj hf, rfl⟩ hP hS dX6_isFace_15
def p_X6_isFace_0 (σ : SS) (v1 : Int32) : Option (Int32) := oi v1 16 (if (σ.1 7 v1.toNatClampNeg) = 2 then p_X6_isFace_15 σ 1 else p_X6_isFace_15 σ 0)
set_option maxHeartbeats 4000000 in
set_option maxRecDepth 100000 in
theorem w_X6_isFace_0 {p : Program} {l : Launch} {e : Env} {R : Room} {s : State} {m : MethodId} {args : Array Value} {below : List Frame} {meth : Method} {c : Code} {D : va_G} {ad : Nat → Nat} {cI cJ cZ : ClassId} {res : Int32} (hm : mx p s m args meth c cX6_isFace 2 (some .boolean) wsX6_isFace RX6) (hR : 0 ≤ R.frames ∧ 0 ≤ R.locals) (hK : va_K D vwCl (tyw cI cJ cZ) s) (hD : ∀ σ, va_D (aC ad) (wC ad cI cJ cZ σ)) (σ : SS) (v1 : Int32) (hf : p_X6_isFace_0 σ v1 = some res) (H : Heap) (locs : List Loc) (ls : Array Slot) (hP : va_P D vwCl (wC ad cI cJ cZ σ) H) (hS : va_S (aC ad) s.heap H locs) (hl : lv_has ls 2 [(0, .ref (ad 1)), (1, .int v1)]) : W p l e R s m args below meth c H locs 0 0 (MQ below (va_Qi (fun (r : Int32) (u : SS) => r = res ∧ u = σ) (fun u t => va_P D vwCl (wC ad cI cJ cZ u) t.heap) (aC ad)) args s 0 0 (aC ad)) (F0 m 0 ls []) := by
  obtain ⟨hx, hb, hr, hml, hown, hts, hlk⟩ := id hm
  unfold p_X6_isFace_0 at hf
  refine lv_aload_n hx hb dX6_isFace_0 rfl (lv_at hl 0 rfl) ?_
  refine va_get (D := D) (ci := 5) (v := .ref (ad 7)) (C := RX6) (T := TX6) (N := 6) hx hb hts in_X6_isFace_X6 hown hK hP 1 (wC_1 _ _ _ _ _) rfl 0 (by decide) (hts (.fieldLink RX6 9 "CallGraphs$Types" "kinds" "[I") (List.mem_of_getElem? (i := 1) rfl)) (fun _ h9 => h9) (fC_1_0 _ _) dX6_isFace_1 ?_
  refine lv_iload_n hx hb dX6_isFace_4 rfl (lv_at hl 1 rfl) ?_
  obtain ⟨h_5, hf⟩ := oi_e hf
  refine va_iald hx hb hK hP 7 0 (wC_7 _ _ _ _ _) rfl h_5 dX6_isFace_5 ?_
  refine lv_iconst (v := 2) hx hb dX6_isFace_6 (by decide) ?_
  refine lv_icmp_ne (tgt := 14) hx hb dX6_isFace_7 (by decide) (fun c_7 => ?_) (fun c_7 => ?_)
  · rw [if_neg c_7] at hf
    refine lv_iconst (v := 0) hx hb dX6_isFace_14 (by decide) ?_
    exact w_X6_isFace_15 hm hR hK hD σ 0 hf _ _ _ hP hS (lv_sub hl [] rfl)
  · rw [if_pos c_7] at hf
    refine lv_iconst (v := 1) hx hb dX6_isFace_10 (by decide) ?_
    refine lv_goto (tgt := 15) hx hb dX6_isFace_11 (by decide) ?_
    exact w_X6_isFace_15 hm hR hK hD σ 1 hf _ _ _ hP hS (lv_sub hl [] rfl)
theorem hd_X6_isFace : yX6_isFace.cls = RX6 ∧ yX6_isFace.cls ≠ "java/lang/invoke/MethodHandle" ∧ yX6_isFace.cls ≠ "java/lang/invoke/VarHandle" ∧ (parseMethodDescriptor yX6_isFace.desc).map (fun d => d.parameters.length) = some 1 := by decide +kernel
set_option maxHeartbeats 4000000 in
set_option maxRecDepth 100000 in
theorem c_X6_isFace (l : Launch) (D : va_G) (ad : Nat → Nat) (cI cJ cZ : ClassId) (σ : SS) (v1 : Int32) {res : Int32} (hf : p_X6_isFace_0 σ v1 = some res) : Met l yX6_isFace wsX6_isFace ({ frames := 0, cells := 0, slots := 0, locals := 0 } : Room) (PW D (tyw cI cJ cZ) (wC ad cI cJ cZ σ) [.ref (ad 1), .int v1]) (va_Qi (fun (r : Int32) (u : SS) => r = res ∧ u = σ) (fun u t => va_P D vwCl (wC ad cI cJ cZ u) t.heap) (aC ad)) 0 0 (aC ad) := by
  refine Met.ofW (cc := cX6_isFace) (maxL := 2) (ret := (some .boolean)) (by decide) rfl ?_
  intro p e s m args below meth c s₁ B hml hv
  obtain ⟨rfl, hP, hK, hD0⟩ := hv
  have hD : ∀ σ, va_D (aC ad) (wC ad cI cJ cZ σ) := fun σ => wd_D hD0 (wC_map _ _ _ _ _) (wC_map _ _ _ _ _)
  have hm : mx p s m _ meth c cX6_isFace 2 (some .boolean) wsX6_isFace RX6 := ⟨B.exec, B.bytes, B.returns, hml, findClass_of_methodNamed B.named, atoms_spec (ws := wsX6_isFace) B.pre, B.notSynchronized⟩
  have hl := lv_entry ([.ref (ad 1), .int v1]) (n := 2) (Nat.le_of_ble_eq_true rfl)
  rw [lg_entry_eq]
  generalize (lg_sl ([.ref (ad 1), .int v1]) ++ List.replicate (2 - (lg_sl ([.ref (ad 1), .int v1])).length) Slot.unset).toArray = ls at hl ⊢
  exact w_X6_isFace_0 hm ⟨Nat.le_refl _, Nat.le_refl _⟩ hK hD σ v1 hf _ _ _ hP va_S.rf hl
/-! CallGraphs$Types.isUnder(II)Z -/
theorem in_X6_isUnder_X6 : ∀ w ∈ u_ws RX6 TX6 6, w ∈ wsX6_isUnder := fun w h => List.mem_cons_of_mem _ (List.mem_append_right _ h)
def p_X6_isUnder_23 (σ : SS) (t0 : Int32) : Option (Int32) := ob t0 (some t0)
set_option maxHeartbeats 4000000 in
set_option maxRecDepth 100000 in
theorem w_X6_isUnder_23 {p : Program} {l : Launch} {e : Env} {R : Room} {s : State} {m : MethodId} {args : Array Value} {below : List Frame} {meth : Method} {c : Code} {D : va_G} {ad : Nat → Nat} {cI cJ cZ : ClassId} {res : Int32} (hm : mx p s m args meth c cX6_isUnder 3 (some .boolean) wsX6_isUnder RX6) (hR : 1 ≤ R.frames ∧ 22 ≤ R.locals) (hK : va_K D vwCl (tyw cI cJ cZ) s) (hD : ∀ σ, va_D (aC ad) (wC ad cI cJ cZ σ)) (σ : SS) (t0 : Int32) (hf : p_X6_isUnder_23 σ t0 = some res) (H : Heap) (locs : List Loc) (ls : Array Slot) (hP : va_P D vwCl (wC ad cI cJ cZ σ) H) (hS : va_S (aC ad) s.heap H locs) (hl : lv_has ls 3 []) : W p l e R s m args below meth c H locs 0 0 (MQ below (va_Qi (fun (r : Int32) (u : SS) => r = res ∧ u = σ) (fun u t => va_P D vwCl (wC ad cI cJ cZ u) t.heap) (aC ad)) args s 0 0 (aC ad)) (F0 m 23 ls [.int t0]) := by
  obtain ⟨hx, hb, hr, hml, hown, hts, hlk⟩ := id hm
  unfold p_X6_isUnder_23 at hf
  obtain ⟨h_23, hf⟩ := ob_e hf
  exact rt_z (wd := wC ad cI cJ cZ) hx hb hr hlk h_23 ⟨Option.some.inj hf, rfl⟩ hP hS dX6_isUnder_23
def p_X6_isUnder_18 (σ : SS) : Option (Int32) := p_X6_isUnder_23 σ 1
set_option maxHeartbeats 4000000 in
set_option maxRecDepth 100000 in
theorem w_X6_isUnder_18 {p : Program} {l : Launch} {e : Env} {R : Room} {s : State} {m : MethodId} {args : Array Value} {below : List Frame} {meth : Method} {c : Code} {D : va_G} {ad : Nat → Nat} {cI cJ cZ : ClassId} {res : Int32} (hm : mx p s m args meth c cX6_isUnder 3 (some .boolean) wsX6_isUnder RX6) (hR : 1 ≤ R.frames ∧ 22 ≤ R.locals) (hK : va_K D vwCl (tyw cI cJ cZ) s) (hD : ∀ σ, va_D (aC ad) (wC ad cI cJ cZ σ)) (σ : SS) (hf : p_X6_isUnder_18 σ = some res) (H : Heap) (locs : List Loc) (ls : Array Slot) (hP : va_P D vwCl (wC ad cI cJ cZ σ) H) (hS : va_S (aC ad) s.heap H locs) (hl : lv_has ls 3 []) : W p l e R s m args below meth c H locs 0 0 (MQ below (va_Qi (fun (r : Int32) (u : SS) => r = res ∧ u = σ) (fun u t => va_P D vwCl (wC ad cI cJ cZ u) t.heap) (aC ad)) args s 0 0 (aC ad)) (F0 m 18 ls []) := by
  obtain ⟨hx, hb, hr, hml, hown, hts, hlk⟩ := id hm
  unfold p_X6_isUnder_18 at hf
  refine lv_iconst (v := 1) hx hb dX6_isUnder_18 (by decide) ?_
  refine lv_goto (tgt := 23) hx hb dX6_isUnder_19 (by decide) ?_
  exact w_X6_isUnder_23 hm hR hK hD σ 1 hf _ _ _ hP hS (lv_sub hl [] rfl)
def p_X6_isUnder_0 (σ : SS) (v1 : Int32) (v2 : Int32) : Option (Int32) := if v1 = v2 then p_X6_isUnder_18 σ else oi v1 16 (oc (p_X0_has_0 (σ.2 10 v1.toNatClampNeg) v2) (fun r_12 => if r_12 = 0 then p_X6_isUnder_23 σ 0 else p_X6_isUnder_18 σ))
set_option maxHeartbeats 4000000 in
set_option maxRecDepth 100000 in
theorem w_X6_isUnder_0 {p : Program} {l : Launch} {e : Env} {R : Room} {s : State} {m : MethodId} {args : Array Value} {below : List Frame} {meth : Method} {c : Code} {D : va_G} {ad : Nat → Nat} {cI cJ cZ : ClassId} {res : Int32} (hm : mx p s m args meth c cX6_isUnder 3 (some .boolean) wsX6_isUnder RX6) (hR : 1 ≤ R.frames ∧ 22 ≤ R.locals) (hK : va_K D vwCl (tyw cI cJ cZ) s) (hD : ∀ σ, va_D (aC ad) (wC ad cI cJ cZ σ)) (σ : SS) (v1 : Int32) (v2 : Int32) (hf : p_X6_isUnder_0 σ v1 v2 = some res) (H : Heap) (locs : List Loc) (ls : Array Slot) (hP : va_P D vwCl (wC ad cI cJ cZ σ) H) (hS : va_S (aC ad) s.heap H locs) (hl : lv_has ls 3 [(0, .ref (ad 1)), (1, .int v1), (2, .int v2)]) : W p l e R s m args below meth c H locs 0 0 (MQ below (va_Qi (fun (r : Int32) (u : SS) => r = res ∧ u = σ) (fun u t => va_P D vwCl (wC ad cI cJ cZ u) t.heap) (aC ad)) args s 0 0 (aC ad)) (F0 m 0 ls []) := by
  obtain ⟨hx, hb, hr, hml, hown, hts, hlk⟩ := id hm
  unfold p_X6_isUnder_0 at hf
  refine lv_iload_n hx hb dX6_isUnder_0 rfl (lv_at hl 1 rfl) ?_
  refine lv_iload_n hx hb dX6_isUnder_1 rfl (lv_at hl 2 rfl) ?_
  refine lv_icmp_eq (tgt := 18) hx hb dX6_isUnder_2 (by decide) (fun c_2 => ?_) (fun c_2 => ?_)
  · rw [if_pos c_2] at hf
    exact w_X6_isUnder_18 hm hR hK hD σ hf _ _ _ hP hS (lv_sub hl [] rfl)
  · rw [if_neg c_2] at hf
    refine lv_aload_n hx hb dX6_isUnder_5 rfl (lv_at hl 0 rfl) ?_
    refine va_get (D := D) (ci := 5) (v := .ref (ad 10)) (C := RX6) (T := TX6) (N := 6) hx hb hts in_X6_isUnder_X6 hown hK hP 1 (wC_1 _ _ _ _ _) rfl 3 (by decide) (hts (.fieldLink RX6 22 "CallGraphs$Types" "above" "[J") (List.mem_of_getElem? (i := 1) rfl)) (fun _ h9 => h9) (fC_1_3 _ _) dX6_isUnder_6 ?_
    refine lv_iload_n hx hb dX6_isUnder_9 rfl (lv_at hl 1 rfl) ?_
    obtain ⟨h_10, hf⟩ := oi_e hf
    refine va_lald hx hb hK hP 10 1 (wC_10 _ _ _ _ _) rfl h_10 dX6_isUnder_10 ?_
    refine lv_iload_n hx hb dX6_isUnder_11 rfl (lv_at hl 2 rfl) ?_
    obtain ⟨r_12, hg_12, hf⟩ := oc_e hf
    refine mS_i (D := D) (As := [.long (σ.2 10 v1.toNatClampNeg), .int v2]) (rest := []) ⟨hx, hb, hml, hown, hts⟩ hP hS (c_X0_has l (σ.2 10 v1.toNatClampNeg) v2 hg_12) (va_cwS 2 hts gX6_isUnder_X0_has rfl rfl rfl hd_X0_has ⟨Nat.le_trans (Nat.le_of_ble_eq_true rfl) hR.1, Nat.le_trans (Nat.le_of_ble_eq_true rfl) hR.2⟩) rfl hl.1 rfl (Nat.le_of_ble_eq_true rfl) dX6_isUnder_12 (fun H locs hP hS => ?_)
    refine lv_if_eq (tgt := 22) hx hb dX6_isUnder_15 (by decide) (fun c_15 => ?_) (fun c_15 => ?_)
    · rw [if_pos c_15] at hf
      refine lv_iconst (v := 0) hx hb dX6_isUnder_22 (by decide) ?_
      exact w_X6_isUnder_23 hm hR hK hD σ 0 hf _ _ _ hP hS (lv_sub hl [] rfl)
    · rw [if_neg c_15] at hf
      exact w_X6_isUnder_18 hm hR hK hD σ hf _ _ _ hP hS (lv_sub hl [] rfl)
theorem hd_X6_isUnder : yX6_isUnder.cls = RX6 ∧ yX6_isUnder.cls ≠ "java/lang/invoke/MethodHandle" ∧ yX6_isUnder.cls ≠ "java/lang/invoke/VarHandle" ∧ (parseMethodDescriptor yX6_isUnder.desc).map (fun d => d.parameters.length) = some 2 := by decide +kernel
set_option maxHeartbeats 4000000 in
set_option maxRecDepth 100000 in
theorem c_X6_isUnder (l : Launch) (D : va_G) (ad : Nat → Nat) (cI cJ cZ : ClassId) (σ : SS) (v1 : Int32) (v2 : Int32) {res : Int32} (hf : p_X6_isUnder_0 σ v1 v2 = some res) : Met l yX6_isUnder wsX6_isUnder ({ frames := 1, cells := 0, slots := 0, locals := 22 } : Room) (PW D (tyw cI cJ cZ) (wC ad cI cJ cZ σ) [.ref (ad 1), .int v1, .int v2]) (va_Qi (fun (r : Int32) (u : SS) => r = res ∧ u = σ) (fun u t => va_P D vwCl (wC ad cI cJ cZ u) t.heap) (aC ad)) 0 0 (aC ad) := by
  refine Met.ofW (cc := cX6_isUnder) (maxL := 3) (ret := (some .boolean)) (by decide) rfl ?_
  intro p e s m args below meth c s₁ B hml hv
  obtain ⟨rfl, hP, hK, hD0⟩ := hv
  have hD : ∀ σ, va_D (aC ad) (wC ad cI cJ cZ σ) := fun σ => wd_D hD0 (wC_map _ _ _ _ _) (wC_map _ _ _ _ _)
  have hm : mx p s m _ meth c cX6_isUnder 3 (some .boolean) wsX6_isUnder RX6 := ⟨B.exec, B.bytes, B.returns, hml, findClass_of_methodNamed B.named, atoms_spec (ws := wsX6_isUnder) B.pre, B.notSynchronized⟩
  have hl := lv_entry ([.ref (ad 1), .int v1, .int v2]) (n := 3) (Nat.le_of_ble_eq_true rfl)
  rw [lg_entry_eq]
  generalize (lg_sl ([.ref (ad 1), .int v1, .int v2]) ++ List.replicate (3 - (lg_sl ([.ref (ad 1), .int v1, .int v2])).length) Slot.unset).toArray = ls at hl ⊢
  exact w_X6_isUnder_0 hm ⟨Nat.le_refl _, Nat.le_refl _⟩ hK hD σ v1 v2 hf _ _ _ hP va_S.rf hl
/-! CallGraphs$Types.knows(I)Z -/
theorem in_X6_knows_X6 : ∀ w ∈ u_ws RX6 TX6 6, w ∈ wsX6_knows := fun w h => List.mem_cons_of_mem _ (List.mem_append_right _ h)
def p_X6_knows_17 (σ : SS) (t0 : Int32) : Option (Int32) := ob t0 (some t0)
set_option maxHeartbeats 4000000 in
set_option maxRecDepth 100000 in
theorem w_X6_knows_17 {p : Program} {l : Launch} {e : Env} {R : Room} {s : State} {m : MethodId} {args : Array Value} {below : List Frame} {meth : Method} {c : Code} {D : va_G} {ad : Nat → Nat} {cI cJ cZ : ClassId} {res : Int32} (hm : mx p s m args meth c cX6_knows 2 (some .boolean) wsX6_knows RX6) (hR : 0 ≤ R.frames ∧ 0 ≤ R.locals) (hK : va_K D vwCl (tyw cI cJ cZ) s) (hD : ∀ σ, va_D (aC ad) (wC ad cI cJ cZ σ)) (σ : SS) (t0 : Int32) (hf : p_X6_knows_17 σ t0 = some res) (H : Heap) (locs : List Loc) (ls : Array Slot) (hP : va_P D vwCl (wC ad cI cJ cZ σ) H) (hS : va_S (aC ad) s.heap H locs) (hl : lv_has ls 2 []) : W p l e R s m args below meth c H locs 0 0 (MQ below (va_Qi (fun (r : Int32) (u : SS) => r = res ∧ u = σ) (fun u t => va_P D vwCl (wC ad cI cJ cZ u) t.heap) (aC ad)) args s 0 0 (aC ad)) (F0 m 17 ls [.int t0]) := by
  obtain ⟨hx, hb, hr, hml, hown, hts, hlk⟩ := id hm
  unfold p_X6_knows_17 at hf
  obtain ⟨h_17, hf⟩ := ob_e hf
  exact rt_z (wd := wC ad cI cJ cZ) hx hb hr hlk h_17 ⟨Option.some.inj hf, rfl⟩ hP hS dX6_knows_17
def p_X6_knows_16 (σ : SS) : Option (Int32) := p_X6_knows_17 σ 0
set_option maxHeartbeats 4000000 in
set_option maxRecDepth 100000 in
theorem w_X6_knows_16 {p : Program} {l : Launch} {e : Env} {R : Room} {s : State} {m : MethodId} {args : Array Value} {below : List Frame} {meth : Method} {c : Code} {D : va_G} {ad : Nat → Nat} {cI cJ cZ : ClassId} {res : Int32} (hm : mx p s m args meth c cX6_knows 2 (some .boolean) wsX6_knows RX6) (hR : 0 ≤ R.frames ∧ 0 ≤ R.locals) (hK : va_K D vwCl (tyw cI cJ cZ) s) (hD : ∀ σ, va_D (aC ad) (wC ad cI cJ cZ σ)) (σ : SS) (hf : p_X6_knows_16 σ = some res) (H : Heap) (locs : List Loc) (ls : Array Slot) (hP : va_P D vwCl (wC ad cI cJ cZ σ) H) (hS : va_S (aC ad) s.heap H locs) (hl : lv_has ls 2 []) : W p l e R s m args below meth c H locs 0 0 (MQ below (va_Qi (fun (r : Int32) (u : SS) => r = res ∧ u = σ) (fun u t => va_P D vwCl (wC ad cI cJ cZ u) t.heap) (aC ad)) args s 0 0 (aC ad)) (F0 m 16 ls []) := by
  obtain ⟨hx, hb, hr, hml, hown, hts, hlk⟩ := id hm
  unfold p_X6_knows_16 at hf
  refine lv_iconst (v := 0) hx hb dX6_knows_16 (by decide) ?_
  exact w_X6_knows_17 hm hR hK hD σ 0 hf _ _ _ hP hS (lv_sub hl [] rfl)
def p_X6_knows_0 (σ : SS) (v1 : Int32) : Option (Int32) := if v1 < 0 then p_X6_knows_16 σ else if (σ.1 1 5) ≤ v1 then p_X6_knows_16 σ else p_X6_knows_17 σ 1
set_option maxHeartbeats 4000000 in
set_option maxRecDepth 100000 in
theorem w_X6_knows_0 {p : Program} {l : Launch} {e : Env} {R : Room} {s : State} {m : MethodId} {args : Array Value} {below : List Frame} {meth : Method} {c : Code} {D : va_G} {ad : Nat → Nat} {cI cJ cZ : ClassId} {res : Int32} (hm : mx p s m args meth c cX6_knows 2 (some .boolean) wsX6_knows RX6) (hR : 0 ≤ R.frames ∧ 0 ≤ R.locals) (hK : va_K D vwCl (tyw cI cJ cZ) s) (hD : ∀ σ, va_D (aC ad) (wC ad cI cJ cZ σ)) (σ : SS) (v1 : Int32) (hf : p_X6_knows_0 σ v1 = some res) (H : Heap) (locs : List Loc) (ls : Array Slot) (hP : va_P D vwCl (wC ad cI cJ cZ σ) H) (hS : va_S (aC ad) s.heap H locs) (hl : lv_has ls 2 [(0, .ref (ad 1)), (1, .int v1)]) : W p l e R s m args below meth c H locs 0 0 (MQ below (va_Qi (fun (r : Int32) (u : SS) => r = res ∧ u = σ) (fun u t => va_P D vwCl (wC ad cI cJ cZ u) t.heap) (aC ad)) args s 0 0 (aC ad)) (F0 m 0 ls []) := by
  obtain ⟨hx, hb, hr, hml, hown, hts, hlk⟩ := id hm
  unfold p_X6_knows_0 at hf
  refine lv_iload_n hx hb dX6_knows_0 rfl (lv_at hl 1 rfl) ?_
  refine lv_if_lt (tgt := 16) hx hb dX6_knows_1 (by decide) (fun c_1 => ?_) (fun c_1 => ?_)
  · rw [if_pos c_1] at hf
    exact w_X6_knows_16 hm hR hK hD σ hf _ _ _ hP hS (lv_sub hl [] rfl)
  · rw [if_neg c_1] at hf
    refine lv_iload_n hx hb dX6_knows_4 rfl (lv_at hl 1 rfl) ?_
    refine lv_aload_n hx hb dX6_knows_5 rfl (lv_at hl 0 rfl) ?_
    refine va_get (D := D) (ci := 5) (v := .int (σ.1 1 5)) (C := RX6) (T := TX6) (N := 6) hx hb hts in_X6_knows_X6 hown hK hP 1 (wC_1 _ _ _ _ _) rfl 5 (by decide) (hts (.fieldLink RX6 25 "CallGraphs$Types" "count" "I") (List.mem_of_getElem? (i := 1) rfl)) (fun _ h9 => h9) (fC_1_5 _ _) dX6_knows_6 ?_
    refine lv_icmp_ge (tgt := 16) hx hb dX6_knows_9 (by decide) (fun c_9 => ?_) (fun c_9 => ?_)
    · rw [if_pos c_9] at hf
      exact w_X6_knows_16 hm hR hK hD σ hf _ _ _ hP hS (lv_sub hl [] rfl)
    · rw [if_neg c_9] at hf
      refine lv_iconst (v := 1) hx hb dX6_knows_12 (by decide) ?_
      refine lv_goto (tgt := 17) hx hb dX6_knows_13 (by decide) ?_
      exact w_X6_knows_17 hm hR hK hD σ 1 hf _ _ _ hP hS (lv_sub hl [] rfl)
theorem hd_X6_knows : yX6_knows.cls = RX6 ∧ yX6_knows.cls ≠ "java/lang/invoke/MethodHandle" ∧ yX6_knows.cls ≠ "java/lang/invoke/VarHandle" ∧ (parseMethodDescriptor yX6_knows.desc).map (fun d => d.parameters.length) = some 1 := by decide +kernel
set_option maxHeartbeats 4000000 in
set_option maxRecDepth 100000 in
theorem c_X6_knows (l : Launch) (D : va_G) (ad : Nat → Nat) (cI cJ cZ : ClassId) (σ : SS) (v1 : Int32) {res : Int32} (hf : p_X6_knows_0 σ v1 = some res) : Met l yX6_knows wsX6_knows ({ frames := 0, cells := 0, slots := 0, locals := 0 } : Room) (PW D (tyw cI cJ cZ) (wC ad cI cJ cZ σ) [.ref (ad 1), .int v1]) (va_Qi (fun (r : Int32) (u : SS) => r = res ∧ u = σ) (fun u t => va_P D vwCl (wC ad cI cJ cZ u) t.heap) (aC ad)) 0 0 (aC ad) := by
  refine Met.ofW (cc := cX6_knows) (maxL := 2) (ret := (some .boolean)) (by decide) rfl ?_
  intro p e s m args below meth c s₁ B hml hv
  obtain ⟨rfl, hP, hK, hD0⟩ := hv
  have hD : ∀ σ, va_D (aC ad) (wC ad cI cJ cZ σ) := fun σ => wd_D hD0 (wC_map _ _ _ _ _) (wC_map _ _ _ _ _)
  have hm : mx p s m _ meth c cX6_knows 2 (some .boolean) wsX6_knows RX6 := ⟨B.exec, B.bytes, B.returns, hml, findClass_of_methodNamed B.named, atoms_spec (ws := wsX6_knows) B.pre, B.notSynchronized⟩
  have hl := lv_entry ([.ref (ad 1), .int v1]) (n := 2) (Nat.le_of_ble_eq_true rfl)
  rw [lg_entry_eq]
  generalize (lg_sl ([.ref (ad 1), .int v1]) ++ List.replicate (2 - (lg_sl ([.ref (ad 1), .int v1])).length) Slot.unset).toArray = ls at hl ⊢
  exact w_X6_knows_0 hm ⟨Nat.le_refl _, Nat.le_refl _⟩ hK hD σ v1 hf _ _ _ hP va_S.rf hl
/-! CallGraphs$Types.kindOf(I)I -/
theorem in_X6_kindOf_X6 : ∀ w ∈ u_ws RX6 TX6 6, w ∈ wsX6_kindOf := fun w h => List.mem_cons_of_mem _ (List.mem_append_right _ h)
def p_X6_kindOf_0 (σ : SS) (v1 : Int32) : Option (Int32) := oi v1 16 (some (σ.1 7 v1.toNatClampNeg))
set_option maxHeartbeats 4000000 in
set_option maxRecDepth 100000 in
theorem w_X6_kindOf_0 {p : Program} {l : Launch} {e : Env} {R : Room} {s : State} {m : MethodId} {args : Array Value} {below : List Frame} {meth : Method} {c : Code} {D : va_G} {ad : Nat → Nat} {cI cJ cZ : ClassId} {res : Int32} (hm : mx p s m args meth c cX6_kindOf 2 (some .int) wsX6_kindOf RX6) (hR : 0 ≤ R.frames ∧ 0 ≤ R.locals) (hK : va_K D vwCl (tyw cI cJ cZ) s) (hD : ∀ σ, va_D (aC ad) (wC ad cI cJ cZ σ)) (σ : SS) (v1 : Int32) (hf : p_X6_kindOf_0 σ v1 = some res) (H : Heap) (locs : List Loc) (ls : Array Slot) (hP : va_P D vwCl (wC ad cI cJ cZ σ) H) (hS : va_S (aC ad) s.heap H locs) (hl : lv_has ls 2 [(0, .ref (ad 1)), (1, .int v1)]) : W p l e R s m args below meth c H locs 0 0 (MQ below (va_Qi (fun (r : Int32) (u : SS) => r = res ∧ u = σ) (fun u t => va_P D vwCl (wC ad cI cJ cZ u) t.heap) (aC ad)) args s 0 0 (aC ad)) (F0 m 0 ls []) := by
  obtain ⟨hx, hb, hr, hml, hown, hts, hlk⟩ := id hm
  unfold p_X6_kindOf_0 at hf
  refine lv_aload_n hx hb dX6_kindOf_0 rfl (lv_at hl 0 rfl) ?_
  refine va_get (D := D) (ci := 5) (v := .ref (ad 7)) (C := RX6) (T := TX6) (N := 6) hx hb hts in_X6_kindOf_X6 hown hK hP 1 (wC_1 _ _ _ _ _) rfl 0 (by decide) (hts (.fieldLink RX6 9 "CallGraphs$Types" "kinds" "[I") (List.mem_of_getElem? (i := 1) rfl)) (fun _ h9 => h9) (fC_1_0 _ _) dX6_kindOf_1 ?_
  refine lv_iload_n hx hb dX6_kindOf_4 rfl (lv_at hl 1 rfl) ?_
  obtain ⟨h_5, hf⟩ := oi_e hf
  refine va_iald hx hb hK hP 7 0 (wC_7 _ _ _ _ _) rfl h_5 dX6_kindOf_5 ?_
  exact rt_i (wd := wC ad cI cJ cZ) hx hb hr hlk ⟨Option.some.inj hf, rfl⟩ hP hS dX6_kindOf_6
theorem hd_X6_kindOf : yX6_kindOf.cls = RX6 ∧ yX6_kindOf.cls ≠ "java/lang/invoke/MethodHandle" ∧ yX6_kindOf.cls ≠ "java/lang/invoke/VarHandle" ∧ (parseMethodDescriptor yX6_kindOf.desc).map (fun d => d.parameters.length) = some 1 := by decide +kernel
set_option maxHeartbeats 4000000 in
set_option maxRecDepth 100000 in
theorem c_X6_kindOf (l : Launch) (D : va_G) (ad : Nat → Nat) (cI cJ cZ : ClassId) (σ : SS) (v1 : Int32) {res : Int32} (hf : p_X6_kindOf_0 σ v1 = some res) : Met l yX6_kindOf wsX6_kindOf ({ frames := 0, cells := 0, slots := 0, locals := 0 } : Room) (PW D (tyw cI cJ cZ) (wC ad cI cJ cZ σ) [.ref (ad 1), .int v1]) (va_Qi (fun (r : Int32) (u : SS) => r = res ∧ u = σ) (fun u t => va_P D vwCl (wC ad cI cJ cZ u) t.heap) (aC ad)) 0 0 (aC ad) := by
  refine Met.ofW (cc := cX6_kindOf) (maxL := 2) (ret := (some .int)) (by decide) rfl ?_
  intro p e s m args below meth c s₁ B hml hv
  obtain ⟨rfl, hP, hK, hD0⟩ := hv
  have hD : ∀ σ, va_D (aC ad) (wC ad cI cJ cZ σ) := fun σ => wd_D hD0 (wC_map _ _ _ _ _) (wC_map _ _ _ _ _)
  have hm : mx p s m _ meth c cX6_kindOf 2 (some .int) wsX6_kindOf RX6 := ⟨B.exec, B.bytes, B.returns, hml, findClass_of_methodNamed B.named, atoms_spec (ws := wsX6_kindOf) B.pre, B.notSynchronized⟩
  have hl := lv_entry ([.ref (ad 1), .int v1]) (n := 2) (Nat.le_of_ble_eq_true rfl)
  rw [lg_entry_eq]
  generalize (lg_sl ([.ref (ad 1), .int v1]) ++ List.replicate (2 - (lg_sl ([.ref (ad 1), .int v1])).length) Slot.unset).toArray = ls at hl ⊢
  exact w_X6_kindOf_0 hm ⟨Nat.le_refl _, Nat.le_refl _⟩ hK hD σ v1 hf _ _ _ hP va_S.rf hl
/-! CallGraphs$Types.countFaces(I)I -/
theorem in_X6_countFaces_X6 : ∀ w ∈ u_ws RX6 TX6 6, w ∈ wsX6_countFaces := fun w h => List.mem_cons_of_mem _ (List.mem_append_right _ h)
def p_X6_countFaces_0 (σ : SS) (v1 : Int32) : Option (Int32) := oi v1 16 (oc (p_J13_bitCount_95d88_0 (σ.2 9 v1.toNatClampNeg)) (fun r_6 => some r_6))
set_option maxHeartbeats 4000000 in
set_option maxRecDepth 100000 in
theorem w_X6_countFaces_0 {p : Program} {l : Launch} {e : Env} {R : Room} {s : State} {m : MethodId} {args : Array Value} {below : List Frame} {meth : Method} {c : Code} {D : va_G} {ad : Nat → Nat} {cI cJ cZ : ClassId} {res : Int32} (hm : mx p s m args meth c cX6_countFaces 2 (some .int) wsX6_countFaces RX6) (hR : 1 ≤ R.frames ∧ 21 ≤ R.locals) (hK : va_K D vwCl (tyw cI cJ cZ) s) (hD : ∀ σ, va_D (aC ad) (wC ad cI cJ cZ σ)) (σ : SS) (v1 : Int32) (hf : p_X6_countFaces_0 σ v1 = some res) (H : Heap) (locs : List Loc) (ls : Array Slot) (hP : va_P D vwCl (wC ad cI cJ cZ σ) H) (hS : va_S (aC ad) s.heap H locs) (hl : lv_has ls 2 [(0, .ref (ad 1)), (1, .int v1)]) : W p l e R s m args below meth c H locs 0 0 (MQ below (va_Qi (fun (r : Int32) (u : SS) => r = res ∧ u = σ) (fun u t => va_P D vwCl (wC ad cI cJ cZ u) t.heap) (aC ad)) args s 0 0 (aC ad)) (F0 m 0 ls []) := by
  obtain ⟨hx, hb, hr, hml, hown, hts, hlk⟩ := id hm
  unfold p_X6_countFaces_0 at hf
  refine lv_aload_n hx hb dX6_countFaces_0 rfl (lv_at hl 0 rfl) ?_
  refine va_get (D := D) (ci := 5) (v := .ref (ad 9)) (C := RX6) (T := TX6) (N := 6) hx hb hts in_X6_countFaces_X6 hown hK hP 1 (wC_1 _ _ _ _ _) rfl 2 (by decide) (hts (.fieldLink RX6 18 "CallGraphs$Types" "faces" "[J") (List.mem_of_getElem? (i := 1) rfl)) (fun _ h9 => h9) (fC_1_2 _ _) dX6_countFaces_1 ?_
  refine lv_iload_n hx hb dX6_countFaces_4 rfl (lv_at hl 1 rfl) ?_
  obtain ⟨h_5, hf⟩ := oi_e hf
  refine va_lald hx hb hK hP 9 1 (wC_9 _ _ _ _ _) rfl h_5 dX6_countFaces_5 ?_
  obtain ⟨r_6, hg_6, hf⟩ := oc_e hf
  refine mS_i (D := D) (As := [.long (σ.2 9 v1.toNatClampNeg)]) (rest := []) ⟨hx, hb, hml, hown, hts⟩ hP hS (c_J13_bitCount_95d88 l (σ.2 9 v1.toNatClampNeg) hg_6) (va_cwS 1 hts gX6_countFaces_J13_bitCount_95d88 rfl rfl rfl hd_J13_bitCount_95d88 ⟨Nat.le_trans (Nat.le_of_ble_eq_true rfl) hR.1, Nat.le_trans (Nat.le_of_ble_eq_true rfl) hR.2⟩) rfl hl.1 rfl (Nat.le_of_ble_eq_true rfl) dX6_countFaces_6 (fun H locs hP hS => ?_)
  exact rt_i (wd := wC ad cI cJ cZ) hx hb hr hlk ⟨Option.some.inj hf, rfl⟩ hP hS dX6_countFaces_9
theorem hd_X6_countFaces : yX6_countFaces.cls = RX6 ∧ yX6_countFaces.cls ≠ "java/lang/invoke/MethodHandle" ∧ yX6_countFaces.cls ≠ "java/lang/invoke/VarHandle" ∧ (parseMethodDescriptor yX6_countFaces.desc).map (fun d => d.parameters.length) = some 1 := by decide +kernel
set_option maxHeartbeats 4000000 in
set_option maxRecDepth 100000 in
theorem c_X6_countFaces (l : Launch) (D : va_G) (ad : Nat → Nat) (cI cJ cZ : ClassId) (σ : SS) (v1 : Int32) {res : Int32} (hf : p_X6_countFaces_0 σ v1 = some res) : Met l yX6_countFaces wsX6_countFaces ({ frames := 1, cells := 0, slots := 0, locals := 21 } : Room) (PW D (tyw cI cJ cZ) (wC ad cI cJ cZ σ) [.ref (ad 1), .int v1]) (va_Qi (fun (r : Int32) (u : SS) => r = res ∧ u = σ) (fun u t => va_P D vwCl (wC ad cI cJ cZ u) t.heap) (aC ad)) 0 0 (aC ad) := by
  refine Met.ofW (cc := cX6_countFaces) (maxL := 2) (ret := (some .int)) (by decide) rfl ?_
  intro p e s m args below meth c s₁ B hml hv
  obtain ⟨rfl, hP, hK, hD0⟩ := hv
  have hD : ∀ σ, va_D (aC ad) (wC ad cI cJ cZ σ) := fun σ => wd_D hD0 (wC_map _ _ _ _ _) (wC_map _ _ _ _ _)
  have hm : mx p s m _ meth c cX6_countFaces 2 (some .int) wsX6_countFaces RX6 := ⟨B.exec, B.bytes, B.returns, hml, findClass_of_methodNamed B.named, atoms_spec (ws := wsX6_countFaces) B.pre, B.notSynchronized⟩
  have hl := lv_entry ([.ref (ad 1), .int v1]) (n := 2) (Nat.le_of_ble_eq_true rfl)
  rw [lg_entry_eq]
  generalize (lg_sl ([.ref (ad 1), .int v1]) ++ List.replicate (2 - (lg_sl ([.ref (ad 1), .int v1])).length) Slot.unset).toArray = ls at hl ⊢
  exact w_X6_countFaces_0 hm ⟨Nat.le_refl _, Nat.le_refl _⟩ hK hD σ v1 hf _ _ _ hP va_S.rf hl
/-! CallGraphs$Types.hasFace(II)Z -/
theorem in_X6_hasFace_X6 : ∀ w ∈ u_ws RX6 TX6 6, w ∈ wsX6_hasFace := fun w h => List.mem_cons_of_mem _ (List.mem_append_right _ h)
def p_X6_hasFace_0 (σ : SS) (v1 : Int32) (v2 : Int32) : Option (Int32) := oi v1 16 (oc (p_X0_has_0 (σ.2 9 v1.toNatClampNeg) v2) (fun r_7 => ob r_7 (some r_7)))
set_option maxHeartbeats 4000000 in
set_option maxRecDepth 100000 in
theorem w_X6_hasFace_0 {p : Program} {l : Launch} {e : Env} {R : Room} {s : State} {m : MethodId} {args : Array Value} {below : List Frame} {meth : Method} {c : Code} {D : va_G} {ad : Nat → Nat} {cI cJ cZ : ClassId} {res : Int32} (hm : mx p s m args meth c cX6_hasFace 3 (some .boolean) wsX6_hasFace RX6) (hR : 1 ≤ R.frames ∧ 22 ≤ R.locals) (hK : va_K D vwCl (tyw cI cJ cZ) s) (hD : ∀ σ, va_D (aC ad) (wC ad cI cJ cZ σ)) (σ : SS) (v1 : Int32) (v2 : Int32) (hf : p_X6_hasFace_0 σ v1 v2 = some res) (H : Heap) (locs : List Loc) (ls : Array Slot) (hP : va_P D vwCl (wC ad cI cJ cZ σ) H) (hS : va_S (aC ad) s.heap H locs) (hl : lv_has ls 3 [(0, .ref (ad 1)), (1, .int v1), (2, .int v2)]) : W p l e R s m args below meth c H locs 0 0 (MQ below (va_Qi (fun (r : Int32) (u : SS) => r = res ∧ u = σ) (fun u t => va_P D vwCl (wC ad cI cJ cZ u) t.heap) (aC ad)) args s 0 0 (aC ad)) (F0 m 0 ls []) := by
  obtain ⟨hx, hb, hr, hml, hown, hts, hlk⟩ := id hm
  unfold p_X6_hasFace_0 at hf
  refine lv_aload_n hx hb dX6_hasFace_0 rfl (lv_at hl 0 rfl) ?_
  refine va_get (D := D) (ci := 5) (v := .ref (ad 9)) (C := RX6) (T := TX6) (N := 6) hx hb hts in_X6_hasFace_X6 hown hK hP 1 (wC_1 _ _ _ _ _) rfl 2 (by decide) (hts (.fieldLink RX6 18 "CallGraphs$Types" "faces" "[J") (List.mem_of_getElem? (i := 1) rfl)) (fun _ h9 => h9) (fC_1_2 _ _) dX6_hasFace_1 ?_
  refine lv_iload_n hx hb dX6_hasFace_4 rfl (lv_at hl 1 rfl) ?_
  obtain ⟨h_5, hf⟩ := oi_e hf
  refine va_lald hx hb hK hP 9 1 (wC_9 _ _ _ _ _) rfl h_5 dX6_hasFace_5 ?_
  refine lv_iload_n hx hb dX6_hasFace_6 rfl (lv_at hl 2 rfl) ?_
  obtain ⟨r_7, hg_7, hf⟩ := oc_e hf
  refine mS_i (D := D) (As := [.long (σ.2 9 v1.toNatClampNeg), .int v2]) (rest := []) ⟨hx, hb, hml, hown, hts⟩ hP hS (c_X0_has l (σ.2 9 v1.toNatClampNeg) v2 hg_7) (va_cwS 2 hts gX6_hasFace_X0_has rfl rfl rfl hd_X0_has ⟨Nat.le_trans (Nat.le_of_ble_eq_true rfl) hR.1, Nat.le_trans (Nat.le_of_ble_eq_true rfl) hR.2⟩) rfl hl.1 rfl (Nat.le_of_ble_eq_true rfl) dX6_hasFace_7 (fun H locs hP hS => ?_)
  obtain ⟨h_10, hf⟩ := ob_e hf
  exact rt_z (wd := wC ad cI cJ cZ) hx hb hr hlk h_10 ⟨Option.some.inj hf, rfl⟩ hP hS dX6_hasFace_10
theorem hd_X6_hasFace : yX6_hasFace.cls = RX6 ∧ yX6_hasFace.cls ≠ "java/lang/invoke/MethodHandle" ∧ yX6_hasFace.cls ≠ "java/lang/invoke/VarHandle" ∧ (parseMethodDescriptor yX6_hasFace.desc).map (fun d => d.parameters.length) = some 2 := by decide +kernel
set_option maxHeartbeats 4000000 in
set_option maxRecDepth 100000 in
theorem c_X6_hasFace (l : Launch) (D : va_G) (ad : Nat → Nat) (cI cJ cZ : ClassId) (σ : SS) (v1 : Int32) (v2 : Int32) {res : Int32} (hf : p_X6_hasFace_0 σ v1 v2 = some res) : Met l yX6_hasFace wsX6_hasFace ({ frames := 1, cells := 0, slots := 0, locals := 22 } : Room) (PW D (tyw cI cJ cZ) (wC ad cI cJ cZ σ) [.ref (ad 1), .int v1, .int v2]) (va_Qi (fun (r : Int32) (u : SS) => r = res ∧ u = σ) (fun u t => va_P D vwCl (wC ad cI cJ cZ u) t.heap) (aC ad)) 0 0 (aC ad) := by
  refine Met.ofW (cc := cX6_hasFace) (maxL := 3) (ret := (some .boolean)) (by decide) rfl ?_
  intro p e s m args below meth c s₁ B hml hv
  obtain ⟨rfl, hP, hK, hD0⟩ := hv
  have hD : ∀ σ, va_D (aC ad) (wC ad cI cJ cZ σ) := fun σ => wd_D hD0 (wC_map _ _ _ _ _) (wC_map _ _ _ _ _)
  have hm : mx p s m _ meth c cX6_hasFace 3 (some .boolean) wsX6_hasFace RX6 := ⟨B.exec, B.bytes, B.returns, hml, findClass_of_methodNamed B.named, atoms_spec (ws := wsX6_hasFace) B.pre, B.notSynchronized⟩
  have hl := lv_entry ([.ref (ad 1), .int v1, .int v2]) (n := 3) (Nat.le_of_ble_eq_true rfl)
  rw [lg_entry_eq]
  generalize (lg_sl ([.ref (ad 1), .int v1, .int v2]) ++ List.replicate (3 - (lg_sl ([.ref (ad 1), .int v1, .int v2])).length) Slot.unset).toArray = ls at hl ⊢
  exact w_X6_hasFace_0 hm ⟨Nat.le_refl _, Nat.le_refl _⟩ hK hD σ v1 v2 hf _ _ _ hP va_S.rf hl
/-! CallGraphs$Types.isNextAbove(II)Z -/
theorem in_X6_isNextAbove_X6 : ∀ w ∈ u_ws RX6 TX6 6, w ∈ wsX6_isNextAbove := fun w h => List.mem_cons_of_mem _ (List.mem_append_right _ h)
def p_X6_isNextAbove_24 (σ : SS) (t0 : Int32) : Option (Int32) := ob t0 (some t0)
set_option maxHeartbeats 4000000 in
set_option maxRecDepth 100000 in
theorem w_X6_isNextAbove_24 {p : Program} {l : Launch} {e : Env} {R : Room} {s : State} {m : MethodId} {args : Array Value} {below : List Frame} {meth : Method} {c : Code} {D : va_G} {ad : Nat → Nat} {cI cJ cZ : ClassId} {res : Int32} (hm : mx p s m args meth c cX6_isNextAbove 3 (some .boolean) wsX6_isNextAbove RX6) (hR : 2 ≤ R.frames ∧ 44 ≤ R.locals) (hK : va_K D vwCl (tyw cI cJ cZ) s) (hD : ∀ σ, va_D (aC ad) (wC ad cI cJ cZ σ)) (σ : SS) (t0 : Int32) (hf : p_X6_isNextAbove_24 σ t0 = some res) (H : Heap) (locs : List Loc) (ls : Array Slot) (hP : va_P D vwCl (wC ad cI cJ cZ σ) H) (hS : va_S (aC ad) s.heap H locs) (hl : lv_has ls 3 []) : W p l e R s m args below meth c H locs 0 0 (MQ below (va_Qi (fun (r : Int32) (u : SS) => r = res ∧ u = σ) (fun u t => va_P D vwCl (wC ad cI cJ cZ u) t.heap) (aC ad)) args s 0 0 (aC ad)) (F0 m 24 ls [.int t0]) := by
  obtain ⟨hx, hb, hr, hml, hown, hts, hlk⟩ := id hm
  unfold p_X6_isNextAbove_24 at hf
  obtain ⟨h_24, hf⟩ := ob_e hf
  exact rt_z (wd := wC ad cI cJ cZ) hx hb hr hlk h_24 ⟨Option.some.inj hf, rfl⟩ hP hS dX6_isNextAbove_24
def p_X6_isNextAbove_19 (σ : SS) : Option (Int32) := p_X6_isNextAbove_24 σ 1
set_option maxHeartbeats 4000000 in
set_option maxRecDepth 100000 in
theorem w_X6_isNextAbove_19 {p : Program} {l : Launch} {e : Env} {R : Room} {s : State} {m : MethodId} {args : Array Value} {below : List Frame} {meth : Method} {c : Code} {D : va_G} {ad : Nat → Nat} {cI cJ cZ : ClassId} {res : Int32} (hm : mx p s m args meth c cX6_isNextAbove 3 (some .boolean) wsX6_isNextAbove RX6) (hR : 2 ≤ R.frames ∧ 44 ≤ R.locals) (hK : va_K D vwCl (tyw cI cJ cZ) s) (hD : ∀ σ, va_D (aC ad) (wC ad cI cJ cZ σ)) (σ : SS) (hf : p_X6_isNextAbove_19 σ = some res) (H : Heap) (locs : List Loc) (ls : Array Slot) (hP : va_P D vwCl (wC ad cI cJ cZ σ) H) (hS : va_S (aC ad) s.heap H locs) (hl : lv_has ls 3 []) : W p l e R s m args below meth c H locs 0 0 (MQ below (va_Qi (fun (r : Int32) (u : SS) => r = res ∧ u = σ) (fun u t => va_P D vwCl (wC ad cI cJ cZ u) t.heap) (aC ad)) args s 0 0 (aC ad)) (F0 m 19 ls []) := by
  obtain ⟨hx, hb, hr, hml, hown, hts, hlk⟩ := id hm
  unfold p_X6_isNextAbove_19 at hf
  refine lv_iconst (v := 1) hx hb dX6_isNextAbove_19 (by decide) ?_
  refine lv_goto (tgt := 24) hx hb dX6_isNextAbove_20 (by decide) ?_
  exact w_X6_isNextAbove_24 hm hR hK hD σ 1 hf _ _ _ hP hS (lv_sub hl [] rfl)
def p_X6_isNextAbove_0 (σ : SS) (v1 : Int32) (v2 : Int32) : Option (Int32) := oi v2 16 (if (σ.1 8 v2.toNatClampNeg) = v1 then p_X6_isNextAbove_19 σ else oc (p_X6_hasFace_0 σ v2 v1) (fun r_13 => if r_13 = 0 then p_X6_isNextAbove_24 σ 0 else p_X6_isNextAbove_19 σ))
set_option maxHeartbeats 4000000 in
set_option maxRecDepth 100000 in
theorem w_X6_isNextAbove_0 {p : Program} {l : Launch} {e : Env} {R : Room} {s : State} {m : MethodId} {args : Array Value} {below : List Frame} {meth : Method} {c : Code} {D : va_G} {ad : Nat → Nat} {cI cJ cZ : ClassId} {res : Int32} (hm : mx p s m args meth c cX6_isNextAbove 3 (some .boolean) wsX6_isNextAbove RX6) (hR : 2 ≤ R.frames ∧ 44 ≤ R.locals) (hK : va_K D vwCl (tyw cI cJ cZ) s) (hD : ∀ σ, va_D (aC ad) (wC ad cI cJ cZ σ)) (σ : SS) (v1 : Int32) (v2 : Int32) (hf : p_X6_isNextAbove_0 σ v1 v2 = some res) (H : Heap) (locs : List Loc) (ls : Array Slot) (hP : va_P D vwCl (wC ad cI cJ cZ σ) H) (hS : va_S (aC ad) s.heap H locs) (hl : lv_has ls 3 [(0, .ref (ad 1)), (1, .int v1), (2, .int v2)]) : W p l e R s m args below meth c H locs 0 0 (MQ below (va_Qi (fun (r : Int32) (u : SS) => r = res ∧ u = σ) (fun u t => va_P D vwCl (wC ad cI cJ cZ u) t.heap) (aC ad)) args s 0 0 (aC ad)) (F0 m 0 ls []) := by
  obtain ⟨hx, hb, hr, hml, hown, hts, hlk⟩ := id hm
  unfold p_X6_isNextAbove_0 at hf
  refine lv_aload_n hx hb dX6_isNextAbove_0 rfl (lv_at hl 0 rfl) ?_
  refine va_get (D := D) (ci := 5) (v := .ref (ad 8)) (C := RX6) (T := TX6) (N := 6) hx hb hts in_X6_isNextAbove_X6 hown hK hP 1 (wC_1 _ _ _ _ _) rfl 1 (by decide) (hts (.fieldLink RX6 15 "CallGraphs$Types" "supers" "[I") (List.mem_of_getElem? (i := 1) rfl)) (fun _ h9 => h9) (fC_1_1 _ _) dX6_isNextAbove_1 ?_
  refine lv_iload_n hx hb dX6_isNextAbove_4 rfl (lv_at hl 2 rfl) ?_
  obtain ⟨h_5, hf⟩ := oi_e hf
  refine va_iald hx hb hK hP 8 0 (wC_8 _ _ _ _ _) rfl h_5 dX6_isNextAbove_5 ?_
  refine lv_iload_n hx hb dX6_isNextAbove_6 rfl (lv_at hl 1 rfl) ?_
  refine lv_icmp_eq (tgt := 19) hx hb dX6_isNextAbove_7 (by decide) (fun c_7 => ?_) (fun c_7 => ?_)
  · rw [if_pos c_7] at hf
    exact w_X6_isNextAbove_19 hm hR hK hD σ hf _ _ _ hP hS (lv_sub hl [] rfl)
  · rw [if_neg c_7] at hf
    refine lv_aload_n hx hb dX6_isNextAbove_10 rfl (lv_at hl 0 rfl) ?_
    refine lv_iload_n hx hb dX6_isNextAbove_11 rfl (lv_at hl 2 rfl) ?_
    refine lv_iload_n hx hb dX6_isNextAbove_12 rfl (lv_at hl 1 rfl) ?_
    obtain ⟨r_13, hg_13, hf⟩ := oc_e hf
    refine mV_ri (wd := wC ad cI cJ cZ) (σ := σ) (As := [.int v2, .int v1]) (rest := []) ⟨hx, hb, hml, hown, hts⟩ hK hP hD hS (c_X6_hasFace l D ad cI cJ cZ σ v2 v1 hg_13) (cwV 2 hts gX6_isNextAbove_X6_hasFace rfl rfl rfl hd_X6_hasFace ⟨Nat.le_trans (Nat.le_of_ble_eq_true rfl) hR.1, Nat.le_trans (Nat.le_of_ble_eq_true rfl) hR.2⟩) rfl (wC_1 _ _ _ _ _) rfl hl.1 rfl (Nat.le_of_ble_eq_true rfl) dX6_isNextAbove_13 (fun H locs hP hS => ?_)
    refine lv_if_eq (tgt := 23) hx hb dX6_isNextAbove_16 (by decide) (fun c_16 => ?_) (fun c_16 => ?_)
    · rw [if_pos c_16] at hf
      refine lv_iconst (v := 0) hx hb dX6_isNextAbove_23 (by decide) ?_
      exact w_X6_isNextAbove_24 hm hR hK hD σ 0 hf _ _ _ hP hS (lv_sub hl [] rfl)
    · rw [if_neg c_16] at hf
      exact w_X6_isNextAbove_19 hm hR hK hD σ hf _ _ _ hP hS (lv_sub hl [] rfl)
theorem hd_X6_isNextAbove : yX6_isNextAbove.cls = RX6 ∧ yX6_isNextAbove.cls ≠ "java/lang/invoke/MethodHandle" ∧ yX6_isNextAbove.cls ≠ "java/lang/invoke/VarHandle" ∧ (parseMethodDescriptor yX6_isNextAbove.desc).map (fun d => d.parameters.length) = some 2 := by decide +kernel
set_option maxHeartbeats 4000000 in
set_option maxRecDepth 100000 in
theorem c_X6_isNextAbove (l : Launch) (D : va_G) (ad : Nat → Nat) (cI cJ cZ : ClassId) (σ : SS) (v1 : Int32) (v2 : Int32) {res : Int32} (hf : p_X6_isNextAbove_0 σ v1 v2 = some res) : Met l yX6_isNextAbove wsX6_isNextAbove ({ frames := 2, cells := 0, slots := 0, locals := 44 } : Room) (PW D (tyw cI cJ cZ) (wC ad cI cJ cZ σ) [.ref (ad 1), .int v1, .int v2]) (va_Qi (fun (r : Int32) (u : SS) => r = res ∧ u = σ) (fun u t => va_P D vwCl (wC ad cI cJ cZ u) t.heap) (aC ad)) 0 0 (aC ad) := by
  refine Met.ofW (cc := cX6_isNextAbove) (maxL := 3) (ret := (some .boolean)) (by decide) rfl ?_
  intro p e s m args below meth c s₁ B hml hv
  obtain ⟨rfl, hP, hK, hD0⟩ := hv
  have hD : ∀ σ, va_D (aC ad) (wC ad cI cJ cZ σ) := fun σ => wd_D hD0 (wC_map _ _ _ _ _) (wC_map _ _ _ _ _)
  have hm : mx p s m _ meth c cX6_isNextAbove 3 (some .boolean) wsX6_isNextAbove RX6 := ⟨B.exec, B.bytes, B.returns, hml, findClass_of_methodNamed B.named, atoms_spec (ws := wsX6_isNextAbove) B.pre, B.notSynchronized⟩
  have hl := lv_entry ([.ref (ad 1), .int v1, .int v2]) (n := 3) (Nat.le_of_ble_eq_true rfl)
  rw [lg_entry_eq]
  generalize (lg_sl ([.ref (ad 1), .int v1, .int v2]) ++ List.replicate (3 - (lg_sl ([.ref (ad 1), .int v1, .int v2])).length) Slot.unset).toArray = ls at hl ⊢
  exact w_X6_isNextAbove_0 hm ⟨Nat.le_refl _, Nat.le_refl _⟩ hK hD σ v1 v2 hf _ _ _ hP va_S.rf hl
/-! CallGraphs$Types.tellAbove()V -/
theorem in_X6_tellAbove_X6 : ∀ w ∈ u_ws RX6 TX6 6, w ∈ wsX6_tellAbove := fun w h => List.mem_cons_of_mem _ (List.mem_append_right _ h)
def p_X6_tellAbove_71 (k2 : Int32 → SS → Option (SS)) (k44 : Int32 → Int64 → Int64 → Int32 → SS → Option (SS)) (v1 : Int32) (v2 : Int64) (v4 : Int64) (v6 : Int32) (σ : SS) : Option (SS) := k44 v1 v2 v4 (v6 + 1) σ
set_option maxHeartbeats 4000000 in
set_option maxRecDepth 100000 in
theorem w_X6_tellAbove_71 {p : Program} {l : Launch} {e : Env} {R : Room} {s : State} {m : MethodId} {args : Array Value} {below : List Frame} {meth : Method} {c : Code} {D : va_G} {ad : Nat → Nat} {cI cJ cZ : ClassId} {res : SS} (hm : mx p s m args meth c cX6_tellAbove 7 none wsX6_tellAbove RX6) (hR : 1 ≤ R.frames ∧ 22 ≤ R.locals) (hK : va_K D vwCl (tyw cI cJ cZ) s) (hD : ∀ σ, va_D (aC ad) (wC ad cI cJ cZ σ)) (k2 : Int32 → SS → Option (SS)) (hk2 : ∀ (v1 : Int32) (σ : SS), k2 v1 σ = some res → ∀ (H : Heap) (locs : List Loc) (ls : Array Slot), va_P D vwCl (wC ad cI cJ cZ σ) H → va_S (aC ad) s.heap H locs → lv_has ls 7 [(0, .ref (ad 1)), (1, .int v1)] → W p l e R s m args below meth c H locs 0 0 (MQ below (va_Qv (fun (u : SS) => u = res) (fun u t => va_P D vwCl (wC ad cI cJ cZ u) t.heap) (aC ad)) args s 0 0 (aC ad)) (F0 m 2 ls [])) (k44 : Int32 → Int64 → Int64 → Int32 → SS → Option (SS)) (hk44 : ∀ (v1 : Int32) (v2 : Int64) (v4 : Int64) (v6 : Int32) (σ : SS), k44 v1 v2 v4 v6 σ = some res → ∀ (H : Heap) (locs : List Loc) (ls : Array Slot), va_P D vwCl (wC ad cI cJ cZ σ) H → va_S (aC ad) s.heap H locs → lv_has ls 7 [(0, .ref (ad 1)), (1, .int v1), (2, .long v2), (4, .long v4), (6, .int v6)] → W p l e R s m args below meth c H locs 0 0 (MQ below (va_Qv (fun (u : SS) => u = res) (fun u t => va_P D vwCl (wC ad cI cJ cZ u) t.heap) (aC ad)) args s 0 0 (aC ad)) (F0 m 44 ls [])) (v1 : Int32) (v2 : Int64) (v4 : Int64) (v6 : Int32) (σ : SS) (hf : p_X6_tellAbove_71 k2 k44 v1 v2 v4 v6 σ = some res) (H : Heap) (locs : List Loc) (ls : Array Slot) (hP : va_P D vwCl (wC ad cI cJ cZ σ) H) (hS : va_S (aC ad) s.heap H locs) (hl : lv_has ls 7 [(0, .ref (ad 1)), (1, .int v1), (2, .long v2), (4, .long v4), (6, .int v6)]) : W p l e R s m args below meth c H locs 0 0 (MQ below (va_Qv (fun (u : SS) => u = res) (fun u t => va_P D vwCl (wC ad cI cJ cZ u) t.heap) (aC ad)) args s 0 0 (aC ad)) (F0 m 71 ls []) := by
  obtain ⟨hx, hb, hr, hml, hown, hts, hlk⟩ := id hm
  unfold p_X6_tellAbove_71 at hf
  refine lv_iinc (v := (v6 + 1)) (lv' := [(6, .int (v6 + 1)), (0, .ref (ad 1)), (1, .int v1), (2, .long v2), (4, .long v4)]) hx hb dX6_tellAbove_71 hl (k := 4) rfl rfl (by decide) rfl (fun ls hl => ?_)
  refine lv_goto (tgt := 44) hx hb dX6_tellAbove_74 (by decide) ?_
  exact hk44 v1 v2 v4 (v6 + 1) σ hf _ _ _ hP hS (lv_sub hl [1, 2, 3, 4, 0] rfl)
def p_X6_tellAbove_44 (k2 : Int32 → SS → Option (SS)) : Nat → Int32 → Int64 → Int64 → Int32 → SS → Option (SS)
  | 0, _, _, _, _, _ => none
  | n + 1, v1, v2, v4, v6, σ => let k44 := p_X6_tellAbove_44 k2 n; if v1 ≤ v6 then oi v1 16 (os (sL σ 10 (v1.toNatClampNeg) v4) (fun s_84 => k2 (v1 + 1) s_84)) else oc (p_X0_has_0 v2 v6) (fun r_53 => if r_53 = 0 then p_X6_tellAbove_71 k2 k44 v1 v2 v4 v6 σ else oi v6 16 (p_X6_tellAbove_71 k2 k44 v1 v2 (v4 ||| (σ.2 10 v6.toNatClampNeg)) v6 σ))
set_option maxHeartbeats 4000000 in
set_option maxRecDepth 100000 in
theorem w_X6_tellAbove_44 {p : Program} {l : Launch} {e : Env} {R : Room} {s : State} {m : MethodId} {args : Array Value} {below : List Frame} {meth : Method} {c : Code} {D : va_G} {ad : Nat → Nat} {cI cJ cZ : ClassId} {res : SS} (hm : mx p s m args meth c cX6_tellAbove 7 none wsX6_tellAbove RX6) (hR : 1 ≤ R.frames ∧ 22 ≤ R.locals) (hK : va_K D vwCl (tyw cI cJ cZ) s) (hD : ∀ σ, va_D (aC ad) (wC ad cI cJ cZ σ)) (k2 : Int32 → SS → Option (SS)) (hk2 : ∀ (v1 : Int32) (σ : SS), k2 v1 σ = some res → ∀ (H : Heap) (locs : List Loc) (ls : Array Slot), va_P D vwCl (wC ad cI cJ cZ σ) H → va_S (aC ad) s.heap H locs → lv_has ls 7 [(0, .ref (ad 1)), (1, .int v1)] → W p l e R s m args below meth c H locs 0 0 (MQ below (va_Qv (fun (u : SS) => u = res) (fun u t => va_P D vwCl (wC ad cI cJ cZ u) t.heap) (aC ad)) args s 0 0 (aC ad)) (F0 m 2 ls [])) : ∀ (n : Nat) (v1 : Int32) (v2 : Int64) (v4 : Int64) (v6 : Int32) (σ : SS), p_X6_tellAbove_44 k2 n v1 v2 v4 v6 σ = some res → ∀ (H : Heap) (locs : List Loc) (ls : Array Slot), va_P D vwCl (wC ad cI cJ cZ σ) H → va_S (aC ad) s.heap H locs → lv_has ls 7 [(0, .ref (ad 1)), (1, .int v1), (2, .long v2), (4, .long v4), (6, .int v6)] → W p l e R s m args below meth c H locs 0 0 (MQ below (va_Qv (fun (u : SS) => u = res) (fun u t => va_P D vwCl (wC ad cI cJ cZ u) t.heap) (aC ad)) args s 0 0 (aC ad)) (F0 m 44 ls []) := by
  obtain ⟨hx, hb, hr, hml, hown, hts, hlk⟩ := id hm
  intro n
  induction n with
  | zero =>
    intro _ _ _ _ _ hf
    cases hf
  | succ n hk44 =>
    intro v1 v2 v4 v6 σ hf H locs ls hP hS hl
    rw [p_X6_tellAbove_44] at hf
    try dsimp only at hf
    refine lv_iload hx hb dX6_tellAbove_44 (lv_at hl 4 rfl) ?_
    refine lv_iload_n hx hb dX6_tellAbove_46 rfl (lv_at hl 1 rfl) ?_
    refine lv_icmp_ge (tgt := 77) hx hb dX6_tellAbove_47 (by decide) (fun c_47 => ?_) (fun c_47 => ?_)
    · rw [if_pos c_47] at hf
      refine lv_aload_n hx hb dX6_tellAbove_77 rfl (lv_at hl 0 rfl) ?_
      refine va_get (D := D) (ci := 5) (v := .ref (ad 10)) (C := RX6) (T := TX6) (N := 6) hx hb hts in_X6_tellAbove_X6 hown hK hP 1 (wC_1 _ _ _ _ _) rfl 3 (by decide) (hts (.fieldLink RX6 22 "CallGraphs$Types" "above" "[J") (List.mem_of_getElem? (i := 4) rfl)) (fun _ h9 => h9) (fC_1_3 _ _) dX6_tellAbove_78 ?_
      refine lv_iload_n hx hb dX6_tellAbove_81 rfl (lv_at hl 1 rfl) ?_
      refine lv_lload hx hb dX6_tellAbove_82 (lv_at hl 3 rfl) ?_
      obtain ⟨h_84, hf⟩ := oi_e hf
      refine va_last hx hb hK hP (hD _) hS 10 1 (wC_10 _ _ _ _ _) rfl h_84 dX6_tellAbove_84 (fun H locs hP _ hS => ?_)
      have hP := wC_s10 hP
      obtain ⟨s_84, es_84, hf⟩ := os_e hf
      rw [← es_84] at hP
      refine lv_iinc (v := (v1 + 1)) (lv' := [(1, .int (v1 + 1)), (0, .ref (ad 1)), (2, .long v2), (4, .long v4), (6, .int v6)]) hx hb dX6_tellAbove_85 hl (k := 1) rfl rfl (by decide) rfl (fun ls hl => ?_)
      refine lv_goto (tgt := 2) hx hb dX6_tellAbove_88 (by decide) ?_
      exact hk2 (v1 + 1) s_84 hf _ _ _ hP hS (lv_sub hl [1, 0] rfl)
    · rw [if_neg c_47] at hf
      refine lv_lload_n hx hb dX6_tellAbove_50 rfl (lv_at hl 2 rfl) ?_
      refine lv_iload hx hb dX6_tellAbove_51 (lv_at hl 4 rfl) ?_
      obtain ⟨r_53, hg_53, hf⟩ := oc_e hf
      refine mS_i (D := D) (As := [.long v2, .int v6]) (rest := []) ⟨hx, hb, hml, hown, hts⟩ hP hS (c_X0_has l v2 v6 hg_53) (va_cwS 2 hts gX6_tellAbove_X0_has rfl rfl rfl hd_X0_has ⟨Nat.le_trans (Nat.le_of_ble_eq_true rfl) hR.1, Nat.le_trans (Nat.le_of_ble_eq_true rfl) hR.2⟩) rfl hl.1 rfl (Nat.le_of_ble_eq_true rfl) dX6_tellAbove_53 (fun H locs hP hS => ?_)
      refine lv_if_eq (tgt := 71) hx hb dX6_tellAbove_56 (by decide) (fun c_56 => ?_) (fun c_56 => ?_)
      · rw [if_pos c_56] at hf
        exact w_X6_tellAbove_71 hm hR hK hD k2 hk2 (p_X6_tellAbove_44 k2 n) hk44 v1 v2 v4 v6 σ hf _ _ _ hP hS (lv_sub hl [0, 1, 2, 3, 4] rfl)
      · rw [if_neg c_56] at hf
        refine lv_lload hx hb dX6_tellAbove_59 (lv_at hl 3 rfl) ?_
        refine lv_aload_n hx hb dX6_tellAbove_61 rfl (lv_at hl 0 rfl) ?_
        refine va_get (D := D) (ci := 5) (v := .ref (ad 10)) (C := RX6) (T := TX6) (N := 6) hx hb hts in_X6_tellAbove_X6 hown hK hP 1 (wC_1 _ _ _ _ _) rfl 3 (by decide) (hts (.fieldLink RX6 22 "CallGraphs$Types" "above" "[J") (List.mem_of_getElem? (i := 4) rfl)) (fun _ h9 => h9) (fC_1_3 _ _) dX6_tellAbove_62 ?_
        refine lv_iload hx hb dX6_tellAbove_65 (lv_at hl 4 rfl) ?_
        obtain ⟨h_67, hf⟩ := oi_e hf
        refine va_lald hx hb hK hP 10 1 (wC_10 _ _ _ _ _) rfl h_67 dX6_tellAbove_67 ?_
        refine lv_lor hx hb dX6_tellAbove_68 ?_
        refine lv_lstore (lv' := [(4, .long (v4 ||| (σ.2 10 v6.toNatClampNeg))), (0, .ref (ad 1)), (1, .int v1), (2, .long v2), (6, .int v6)]) hx hb dX6_tellAbove_69 hl (by decide) rfl (fun ls hl => ?_)
        exact w_X6_tellAbove_71 hm hR hK hD k2 hk2 (p_X6_tellAbove_44 k2 n) hk44 v1 v2 (v4 ||| (σ.2 10 v6.toNatClampNeg)) v6 σ hf _ _ _ hP hS (lv_sub hl [1, 2, 3, 0, 4] rfl)
def p_X6_tellAbove_38 (k2 : Int32 → SS → Option (SS)) (v1 : Int32) (v2 : Int64) (σ : SS) : Option (SS) := p_X6_tellAbove_44 k2 100000 v1 v2 v2 0 σ
set_option maxHeartbeats 4000000 in
set_option maxRecDepth 100000 in
theorem w_X6_tellAbove_38 {p : Program} {l : Launch} {e : Env} {R : Room} {s : State} {m : MethodId} {args : Array Value} {below : List Frame} {meth : Method} {c : Code} {D : va_G} {ad : Nat → Nat} {cI cJ cZ : ClassId} {res : SS} (hm : mx p s m args meth c cX6_tellAbove 7 none wsX6_tellAbove RX6) (hR : 1 ≤ R.frames ∧ 22 ≤ R.locals) (hK : va_K D vwCl (tyw cI cJ cZ) s) (hD : ∀ σ, va_D (aC ad) (wC ad cI cJ cZ σ)) (k2 : Int32 → SS → Option (SS)) (hk2 : ∀ (v1 : Int32) (σ : SS), k2 v1 σ = some res → ∀ (H : Heap) (locs : List Loc) (ls : Array Slot), va_P D vwCl (wC ad cI cJ cZ σ) H → va_S (aC ad) s.heap H locs → lv_has ls 7 [(0, .ref (ad 1)), (1, .int v1)] → W p l e R s m args below meth c H locs 0 0 (MQ below (va_Qv (fun (u : SS) => u = res) (fun u t => va_P D vwCl (wC ad cI cJ cZ u) t.heap) (aC ad)) args s 0 0 (aC ad)) (F0 m 2 ls [])) (v1 : Int32) (v2 : Int64) (σ : SS) (hf : p_X6_tellAbove_38 k2 v1 v2 σ = some res) (H : Heap) (locs : List Loc) (ls : Array Slot) (hP : va_P D vwCl (wC ad cI cJ cZ σ) H) (hS : va_S (aC ad) s.heap H locs) (hl : lv_has ls 7 [(0, .ref (ad 1)), (1, .int v1), (2, .long v2)]) : W p l e R s m args below meth c H locs 0 0 (MQ below (va_Qv (fun (u : SS) => u = res) (fun u t => va_P D vwCl (wC ad cI cJ cZ u) t.heap) (aC ad)) args s 0 0 (aC ad)) (F0 m 38 ls []) := by
  obtain ⟨hx, hb, hr, hml, hown, hts, hlk⟩ := id hm
  unfold p_X6_tellAbove_38 at hf
  refine lv_lload_n hx hb dX6_tellAbove_38 rfl (lv_at hl 2 rfl) ?_
  refine lv_lstore (lv' := [(4, .long v2), (0, .ref (ad 1)), (1, .int v1), (2, .long v2)]) hx hb dX6_tellAbove_39 hl (by decide) rfl (fun ls hl => ?_)
  refine lv_iconst (v := 0) hx hb dX6_tellAbove_41 (by decide) ?_
  refine lv_istore (lv' := [(6, .int 0), (4, .long v2), (0, .ref (ad 1)), (1, .int v1), (2, .long v2)]) hx hb dX6_tellAbove_42 hl (by decide) rfl (fun ls hl => ?_)
  exact w_X6_tellAbove_44 hm hR hK hD k2 hk2 100000 v1 v2 v2 0 σ hf _ _ _ hP hS (lv_sub hl [2, 3, 4, 1, 0] rfl)
def p_X6_tellAbove_2 : Nat → Int32 → SS → Option (SS)
  | 0, _, _ => none
  | n + 1, v1, σ => let k2 := p_X6_tellAbove_2 n; if (σ.1 1 5) ≤ v1 then some σ else oi v1 16 (oi v1 16 (if (σ.1 8 v1.toNatClampNeg) = (-1) then p_X6_tellAbove_38 k2 v1 (σ.2 9 v1.toNatClampNeg) σ else oi v1 16 (oc (p_X0_with_0 (σ.2 9 v1.toNatClampNeg) (σ.1 8 v1.toNatClampNeg)) (fun r_34 => p_X6_tellAbove_38 k2 v1 r_34 σ))))
set_option maxHeartbeats 4000000 in
set_option maxRecDepth 100000 in
theorem w_X6_tellAbove_2 {p : Program} {l : Launch} {e : Env} {R : Room} {s : State} {m : MethodId} {args : Array Value} {below : List Frame} {meth : Method} {c : Code} {D : va_G} {ad : Nat → Nat} {cI cJ cZ : ClassId} {res : SS} (hm : mx p s m args meth c cX6_tellAbove 7 none wsX6_tellAbove RX6) (hR : 1 ≤ R.frames ∧ 22 ≤ R.locals) (hK : va_K D vwCl (tyw cI cJ cZ) s) (hD : ∀ σ, va_D (aC ad) (wC ad cI cJ cZ σ)) : ∀ (n : Nat) (v1 : Int32) (σ : SS), p_X6_tellAbove_2 n v1 σ = some res → ∀ (H : Heap) (locs : List Loc) (ls : Array Slot), va_P D vwCl (wC ad cI cJ cZ σ) H → va_S (aC ad) s.heap H locs → lv_has ls 7 [(0, .ref (ad 1)), (1, .int v1)] → W p l e R s m args below meth c H locs 0 0 (MQ below (va_Qv (fun (u : SS) => u = res) (fun u t => va_P D vwCl (wC ad cI cJ cZ u) t.heap) (aC ad)) args s 0 0 (aC ad)) (F0 m 2 ls []) := by
  obtain ⟨hx, hb, hr, hml, hown, hts, hlk⟩ := id hm
  intro n
  induction n with
  | zero =>
    intro _ _ hf
    cases hf
  | succ n hk2 =>
    intro v1 σ hf H locs ls hP hS hl
    rw [p_X6_tellAbove_2] at hf
    try dsimp only at hf
    refine lv_iload_n hx hb dX6_tellAbove_2 rfl (lv_at hl 1 rfl) ?_
    refine lv_aload_n hx hb dX6_tellAbove_3 rfl (lv_at hl 0 rfl) ?_
    refine va_get (D := D) (ci := 5) (v := .int (σ.1 1 5)) (C := RX6) (T := TX6) (N := 6) hx hb hts in_X6_tellAbove_X6 hown hK hP 1 (wC_1 _ _ _ _ _) rfl 5 (by decide) (hts (.fieldLink RX6 25 "CallGraphs$Types" "count" "I") (List.mem_of_getElem? (i := 1) rfl)) (fun _ h9 => h9) (fC_1_5 _ _) dX6_tellAbove_4 ?_
    refine lv_icmp_ge (tgt := 91) hx hb dX6_tellAbove_7 (by decide) (fun c_7 => ?_) (fun c_7 => ?_)
    · rw [if_pos c_7] at hf
      exact rt_v (wd := wC ad cI cJ cZ) hx hb hr hlk (Option.some.inj hf) hP hS dX6_tellAbove_91
    · rw [if_neg c_7] at hf
      refine lv_aload_n hx hb dX6_tellAbove_10 rfl (lv_at hl 0 rfl) ?_
      refine va_get (D := D) (ci := 5) (v := .ref (ad 9)) (C := RX6) (T := TX6) (N := 6) hx hb hts in_X6_tellAbove_X6 hown hK hP 1 (wC_1 _ _ _ _ _) rfl 2 (by decide) (hts (.fieldLink RX6 18 "CallGraphs$Types" "faces" "[J") (List.mem_of_getElem? (i := 2) rfl)) (fun _ h9 => h9) (fC_1_2 _ _) dX6_tellAbove_11 ?_
      refine lv_iload_n hx hb dX6_tellAbove_14 rfl (lv_at hl 1 rfl) ?_
      obtain ⟨h_15, hf⟩ := oi_e hf
      refine va_lald hx hb hK hP 9 1 (wC_9 _ _ _ _ _) rfl h_15 dX6_tellAbove_15 ?_
      refine lv_lstore_n (lv' := [(2, .long (σ.2 9 v1.toNatClampNeg)), (0, .ref (ad 1)), (1, .int v1)]) hx hb dX6_tellAbove_16 rfl hl (by decide) rfl (fun ls hl => ?_)
      refine lv_aload_n hx hb dX6_tellAbove_17 rfl (lv_at hl 1 rfl) ?_
      refine va_get (D := D) (ci := 5) (v := .ref (ad 8)) (C := RX6) (T := TX6) (N := 6) hx hb hts in_X6_tellAbove_X6 hown hK hP 1 (wC_1 _ _ _ _ _) rfl 1 (by decide) (hts (.fieldLink RX6 15 "CallGraphs$Types" "supers" "[I") (List.mem_of_getElem? (i := 3) rfl)) (fun _ h9 => h9) (fC_1_1 _ _) dX6_tellAbove_18 ?_
      refine lv_iload_n hx hb dX6_tellAbove_21 rfl (lv_at hl 2 rfl) ?_
      obtain ⟨h_22, hf⟩ := oi_e hf
      refine va_iald hx hb hK hP 8 0 (wC_8 _ _ _ _ _) rfl h_22 dX6_tellAbove_22 ?_
      refine lv_iconst (v := (-1)) hx hb dX6_tellAbove_23 (by decide) ?_
      refine lv_icmp_eq (tgt := 38) hx hb dX6_tellAbove_24 (by decide) (fun c_24 => ?_) (fun c_24 => ?_)
      · rw [if_pos c_24] at hf
        exact w_X6_tellAbove_38 hm hR hK hD (p_X6_tellAbove_2 n) hk2 v1 (σ.2 9 v1.toNatClampNeg) σ hf _ _ _ hP hS (lv_sub hl [1, 2, 0] rfl)
      · rw [if_neg c_24] at hf
        refine lv_lload_n hx hb dX6_tellAbove_27 rfl (lv_at hl 0 rfl) ?_
        refine lv_aload_n hx hb dX6_tellAbove_28 rfl (lv_at hl 1 rfl) ?_
        refine va_get (D := D) (ci := 5) (v := .ref (ad 8)) (C := RX6) (T := TX6) (N := 6) hx hb hts in_X6_tellAbove_X6 hown hK hP 1 (wC_1 _ _ _ _ _) rfl 1 (by decide) (hts (.fieldLink RX6 15 "CallGraphs$Types" "supers" "[I") (List.mem_of_getElem? (i := 3) rfl)) (fun _ h9 => h9) (fC_1_1 _ _) dX6_tellAbove_29 ?_
        refine lv_iload_n hx hb dX6_tellAbove_32 rfl (lv_at hl 2 rfl) ?_
        obtain ⟨h_33, hf⟩ := oi_e hf
        refine va_iald hx hb hK hP 8 0 (wC_8 _ _ _ _ _) rfl h_33 dX6_tellAbove_33 ?_
        obtain ⟨r_34, hg_34, hf⟩ := oc_e hf
        refine mS_l (D := D) (As := [.long (σ.2 9 v1.toNatClampNeg), .int (σ.1 8 v1.toNatClampNeg)]) (rest := []) ⟨hx, hb, hml, hown, hts⟩ hP hS (c_X0_with l (σ.2 9 v1.toNatClampNeg) (σ.1 8 v1.toNatClampNeg) hg_34) (va_cwS 2 hts gX6_tellAbove_X0_with rfl rfl rfl hd_X0_with ⟨Nat.le_trans (Nat.le_of_ble_eq_true rfl) hR.1, Nat.le_trans (Nat.le_of_ble_eq_true rfl) hR.2⟩) rfl hl.1 rfl (Nat.le_of_ble_eq_true rfl) dX6_tellAbove_34 (fun H locs hP hS => ?_)
        refine lv_lstore_n (lv' := [(2, .long r_34), (0, .ref (ad 1)), (1, .int v1)]) hx hb dX6_tellAbove_37 rfl hl (by decide) rfl (fun ls hl => ?_)
        exact w_X6_tellAbove_38 hm hR hK hD (p_X6_tellAbove_2 n) hk2 v1 r_34 σ hf _ _ _ hP hS (lv_sub hl [1, 2, 0] rfl)
def p_X6_tellAbove_0 (σ : SS) : Option (SS) := p_X6_tellAbove_2 100000 0 σ
set_option maxHeartbeats 4000000 in
set_option maxRecDepth 100000 in
theorem w_X6_tellAbove_0 {p : Program} {l : Launch} {e : Env} {R : Room} {s : State} {m : MethodId} {args : Array Value} {below : List Frame} {meth : Method} {c : Code} {D : va_G} {ad : Nat → Nat} {cI cJ cZ : ClassId} {res : SS} (hm : mx p s m args meth c cX6_tellAbove 7 none wsX6_tellAbove RX6) (hR : 1 ≤ R.frames ∧ 22 ≤ R.locals) (hK : va_K D vwCl (tyw cI cJ cZ) s) (hD : ∀ σ, va_D (aC ad) (wC ad cI cJ cZ σ)) (σ : SS) (hf : p_X6_tellAbove_0 σ = some res) (H : Heap) (locs : List Loc) (ls : Array Slot) (hP : va_P D vwCl (wC ad cI cJ cZ σ) H) (hS : va_S (aC ad) s.heap H locs) (hl : lv_has ls 7 [(0, .ref (ad 1))]) : W p l e R s m args below meth c H locs 0 0 (MQ below (va_Qv (fun (u : SS) => u = res) (fun u t => va_P D vwCl (wC ad cI cJ cZ u) t.heap) (aC ad)) args s 0 0 (aC ad)) (F0 m 0 ls []) := by
  obtain ⟨hx, hb, hr, hml, hown, hts, hlk⟩ := id hm
  unfold p_X6_tellAbove_0 at hf
  refine lv_iconst (v := 0) hx hb dX6_tellAbove_0 (by decide) ?_
  refine lv_istore_n (lv' := [(1, .int 0), (0, .ref (ad 1))]) hx hb dX6_tellAbove_1 rfl hl (by decide) rfl (fun ls hl => ?_)
  exact w_X6_tellAbove_2 hm hR hK hD 100000 0 σ hf _ _ _ hP hS (lv_sub hl [1, 0] rfl)
theorem hd_X6_tellAbove : yX6_tellAbove.cls = RX6 ∧ yX6_tellAbove.cls ≠ "java/lang/invoke/MethodHandle" ∧ yX6_tellAbove.cls ≠ "java/lang/invoke/VarHandle" ∧ (parseMethodDescriptor yX6_tellAbove.desc).map (fun d => d.parameters.length) = some 0 := by decide +kernel
set_option maxHeartbeats 4000000 in
set_option maxRecDepth 100000 in
theorem c_X6_tellAbove (l : Launch) (D : va_G) (ad : Nat → Nat) (cI cJ cZ : ClassId) (σ : SS) {res : SS} (hf : p_X6_tellAbove_0 σ = some res) : Met l yX6_tellAbove wsX6_tellAbove ({ frames := 1, cells := 0, slots := 0, locals := 22 } : Room) (PW D (tyw cI cJ cZ) (wC ad cI cJ cZ σ) [.ref (ad 1)]) (va_Qv (fun (u : SS) => u = res) (fun u t => va_P D vwCl (wC ad cI cJ cZ u) t.heap) (aC ad)) 0 0 (aC ad) := by
  refine Met.ofW (cc := cX6_tellAbove) (maxL := 7) (ret := none) (by decide) rfl ?_
  intro p e s m args below meth c s₁ B hml hv
  obtain ⟨rfl, hP, hK, hD0⟩ := hv
  have hD : ∀ σ, va_D (aC ad) (wC ad cI cJ cZ σ) := fun σ => wd_D hD0 (wC_map _ _ _ _ _) (wC_map _ _ _ _ _)
  have hm : mx p s m _ meth c cX6_tellAbove 7 none wsX6_tellAbove RX6 := ⟨B.exec, B.bytes, B.returns, hml, findClass_of_methodNamed B.named, atoms_spec (ws := wsX6_tellAbove) B.pre, B.notSynchronized⟩
  have hl := lv_entry ([.ref (ad 1)]) (n := 7) (Nat.le_of_ble_eq_true rfl)
  rw [lg_entry_eq]
  generalize (lg_sl ([.ref (ad 1)]) ++ List.replicate (7 - (lg_sl ([.ref (ad 1)])).length) Slot.unset).toArray = ls at hl ⊢
  exact w_X6_tellAbove_0 hm ⟨Nat.le_refl _, Nat.le_refl _⟩ hK hD σ hf _ _ _ hP va_S.rf hl
/-! CallGraphs$Types.add(II)I -/
theorem in_X6_add_X6 : ∀ w ∈ u_ws RX6 TX6 6, w ∈ wsX6_add := fun w h => List.mem_cons_of_mem _ (List.mem_append_right _ h)
def p_X6_add_36 (v3 : Int32) (σ : SS) : Option (Int32 × SS) := os (sI σ 1 5 ((σ.1 1 5) + 1)) (fun s_43 => oc (p_X6_tellAbove_0 s_43) (fun r_47 => some (v3, r_47)))
set_option maxHeartbeats 4000000 in
set_option maxRecDepth 100000 in
theorem w_X6_add_36 {p : Program} {l : Launch} {e : Env} {R : Room} {s : State} {m : MethodId} {args : Array Value} {below : List Frame} {meth : Method} {c : Code} {D : va_G} {ad : Nat → Nat} {cI cJ cZ : ClassId} {res : Int32 × SS} (hm : mx p s m args meth c cX6_add 4 (some .int) wsX6_add RX6) (hR : 2 ≤ R.frames ∧ 48 ≤ R.locals) (hK : va_K D vwCl (tyw cI cJ cZ) s) (hD : ∀ σ, va_D (aC ad) (wC ad cI cJ cZ σ)) (v3 : Int32) (σ : SS) (hf : p_X6_add_36 v3 σ = some res) (H : Heap) (locs : List Loc) (ls : Array Slot) (hP : va_P D vwCl (wC ad cI cJ cZ σ) H) (hS : va_S (aC ad) s.heap H locs) (hl : lv_has ls 4 [(0, .ref (ad 1)), (3, .int v3)]) : W p l e R s m args below meth c H locs 0 0 (MQ below (va_Qi (fun (r : Int32) (u : SS) => (r, u) = res) (fun u t => va_P D vwCl (wC ad cI cJ cZ u) t.heap) (aC ad)) args s 0 0 (aC ad)) (F0 m 36 ls []) := by
  obtain ⟨hx, hb, hr, hml, hown, hts, hlk⟩ := id hm
  unfold p_X6_add_36 at hf
  refine lv_aload_n hx hb dX6_add_36 rfl (lv_at hl 0 rfl) ?_
  refine lv_dup hx hb dX6_add_37 rfl ?_
  refine va_get (D := D) (ci := 5) (v := .int (σ.1 1 5)) (C := RX6) (T := TX6) (N := 6) hx hb hts in_X6_add_X6 hown hK hP 1 (wC_1 _ _ _ _ _) rfl 5 (by decide) (hts (.fieldLink RX6 25 "CallGraphs$Types" "count" "I") (List.mem_of_getElem? (i := 1) rfl)) (fun _ h9 => h9) (fC_1_5 _ _) dX6_add_38 ?_
  refine lv_iconst (v := 1) hx hb dX6_add_41 (by decide) ?_
  refine lv_iadd hx hb dX6_add_42 ?_
  refine va_put (D := D) (ci := 5) (v := .int ((σ.1 1 5) + 1)) (ty := .int) (C := RX6) (T := TX6) (N := 6) hx hb hts in_X6_add_X6 tyX6 tyX6_ok nmX6 hown hK hP (hD _) hS 1 (wC_1 _ _ _ _ _) rfl 5 (by decide) (hts (.fieldLink RX6 25 "CallGraphs$Types" "count" "I") (List.mem_of_getElem? (i := 1) rfl)) (fun _ h9 => h9) rfl (tyX6_ok 5 (by decide)) rfl rfl (Nat.le_of_ble_eq_true rfl) dX6_add_43 (fun H locs hP _ hS => ?_)
  have hP := wC_p1_5 hP
  obtain ⟨s_43, es_43, hf⟩ := os_e hf
  rw [← es_43] at hP
  refine lv_aload_n hx hb dX6_add_46 rfl (lv_at hl 0 rfl) ?_
  obtain ⟨r_47, hg_47, hf⟩ := oc_e hf
  refine mV_wv (wd := wC ad cI cJ cZ) (σ := s_43) (As := []) (rest := []) ⟨hx, hb, hml, hown, hts⟩ hK hP hD hS (c_X6_tellAbove l D ad cI cJ cZ s_43 hg_47) (cwV 0 hts gX6_add_X6_tellAbove rfl rfl rfl hd_X6_tellAbove ⟨Nat.le_trans (Nat.le_of_ble_eq_true rfl) hR.1, Nat.le_trans (Nat.le_of_ble_eq_true rfl) hR.2⟩) rfl (wC_1 _ _ _ _ _) rfl hl.1 rfl (Nat.le_of_ble_eq_true rfl) dX6_add_47 (fun H locs hP hS => ?_)
  refine lv_iload_n hx hb dX6_add_50 rfl (lv_at hl 1 rfl) ?_
  exact rt_i (wd := wC ad cI cJ cZ) hx hb hr hlk (Option.some.inj hf) hP hS dX6_add_51
def p_X6_add_0 (v1 : Int32) (v2 : Int32) (σ : SS) : Option (Int32 × SS) := oi (σ.1 1 5) 16 (os (sI σ 7 ((σ.1 1 5).toNatClampNeg) v1) (fun s_11 => oi (σ.1 1 5) 16 (os (sI s_11 8 ((σ.1 1 5).toNatClampNeg) v2) (fun s_18 => if v1 = 2 then oc (p_X0_with_0 (s_18.2 1 4) (σ.1 1 5)) (fun r_30 => os (sL s_18 1 4 r_30) (fun s_33 => p_X6_add_36 (σ.1 1 5) s_33)) else p_X6_add_36 (σ.1 1 5) s_18))))
set_option maxHeartbeats 4000000 in
set_option maxRecDepth 100000 in
theorem w_X6_add_0 {p : Program} {l : Launch} {e : Env} {R : Room} {s : State} {m : MethodId} {args : Array Value} {below : List Frame} {meth : Method} {c : Code} {D : va_G} {ad : Nat → Nat} {cI cJ cZ : ClassId} {res : Int32 × SS} (hm : mx p s m args meth c cX6_add 4 (some .int) wsX6_add RX6) (hR : 2 ≤ R.frames ∧ 48 ≤ R.locals) (hK : va_K D vwCl (tyw cI cJ cZ) s) (hD : ∀ σ, va_D (aC ad) (wC ad cI cJ cZ σ)) (v1 : Int32) (v2 : Int32) (σ : SS) (hf : p_X6_add_0 v1 v2 σ = some res) (H : Heap) (locs : List Loc) (ls : Array Slot) (hP : va_P D vwCl (wC ad cI cJ cZ σ) H) (hS : va_S (aC ad) s.heap H locs) (hl : lv_has ls 4 [(0, .ref (ad 1)), (1, .int v1), (2, .int v2)]) : W p l e R s m args below meth c H locs 0 0 (MQ below (va_Qi (fun (r : Int32) (u : SS) => (r, u) = res) (fun u t => va_P D vwCl (wC ad cI cJ cZ u) t.heap) (aC ad)) args s 0 0 (aC ad)) (F0 m 0 ls []) := by
  obtain ⟨hx, hb, hr, hml, hown, hts, hlk⟩ := id hm
  unfold p_X6_add_0 at hf
  refine lv_aload_n hx hb dX6_add_0 rfl (lv_at hl 0 rfl) ?_
  refine va_get (D := D) (ci := 5) (v := .int (σ.1 1 5)) (C := RX6) (T := TX6) (N := 6) hx hb hts in_X6_add_X6 hown hK hP 1 (wC_1 _ _ _ _ _) rfl 5 (by decide) (hts (.fieldLink RX6 25 "CallGraphs$Types" "count" "I") (List.mem_of_getElem? (i := 1) rfl)) (fun _ h9 => h9) (fC_1_5 _ _) dX6_add_1 ?_
  refine lv_istore_n (lv' := [(3, .int (σ.1 1 5)), (0, .ref (ad 1)), (1, .int v1), (2, .int v2)]) hx hb dX6_add_4 rfl hl (by decide) rfl (fun ls hl => ?_)
  refine lv_aload_n hx hb dX6_add_5 rfl (lv_at hl 1 rfl) ?_
  refine va_get (D := D) (ci := 5) (v := .ref (ad 7)) (C := RX6) (T := TX6) (N := 6) hx hb hts in_X6_add_X6 hown hK hP 1 (wC_1 _ _ _ _ _) rfl 0 (by decide) (hts (.fieldLink RX6 9 "CallGraphs$Types" "kinds" "[I") (List.mem_of_getElem? (i := 2) rfl)) (fun _ h9 => h9) (fC_1_0 _ _) dX6_add_6 ?_
  refine lv_iload_n hx hb dX6_add_9 rfl (lv_at hl 0 rfl) ?_
  refine lv_iload_n hx hb dX6_add_10 rfl (lv_at hl 2 rfl) ?_
  obtain ⟨h_11, hf⟩ := oi_e hf
  refine va_iast hx hb hK hP (hD _) hS 7 0 (wC_7 _ _ _ _ _) rfl h_11 dX6_add_11 (fun H locs hP _ hS => ?_)
  have hP := wC_s7 hP
  obtain ⟨s_11, es_11, hf⟩ := os_e hf
  rw [← es_11] at hP
  refine lv_aload_n hx hb dX6_add_12 rfl (lv_at hl 1 rfl) ?_
  refine va_get (D := D) (ci := 5) (v := .ref (ad 8)) (C := RX6) (T := TX6) (N := 6) hx hb hts in_X6_add_X6 hown hK hP 1 (wC_1 _ _ _ _ _) rfl 1 (by decide) (hts (.fieldLink RX6 15 "CallGraphs$Types" "supers" "[I") (List.mem_of_getElem? (i := 3) rfl)) (fun _ h9 => h9) (fC_1_1 _ _) dX6_add_13 ?_
  refine lv_iload_n hx hb dX6_add_16 rfl (lv_at hl 0 rfl) ?_
  refine lv_iload_n hx hb dX6_add_17 rfl (lv_at hl 3 rfl) ?_
  obtain ⟨h_18, hf⟩ := oi_e hf
  refine va_iast hx hb hK hP (hD _) hS 8 0 (wC_8 _ _ _ _ _) rfl h_18 dX6_add_18 (fun H locs hP _ hS => ?_)
  have hP := wC_s8 hP
  obtain ⟨s_18, es_18, hf⟩ := os_e hf
  rw [← es_18] at hP
  refine lv_iload_n hx hb dX6_add_19 rfl (lv_at hl 2 rfl) ?_
  refine lv_iconst (v := 2) hx hb dX6_add_20 (by decide) ?_
  refine lv_icmp_ne (tgt := 36) hx hb dX6_add_21 (by decide) (fun c_21 => ?_) (fun c_21 => ?_)
  · rw [if_neg c_21] at hf
    exact w_X6_add_36 hm hR hK hD (σ.1 1 5) s_18 hf _ _ _ hP hS (lv_sub hl [1, 0] rfl)
  · rw [if_pos c_21] at hf
    refine lv_aload_n hx hb dX6_add_24 rfl (lv_at hl 1 rfl) ?_
    refine lv_aload_n hx hb dX6_add_25 rfl (lv_at hl 1 rfl) ?_
    refine va_get (D := D) (ci := 5) (v := .long (s_18.2 1 4)) (C := RX6) (T := TX6) (N := 6) hx hb hts in_X6_add_X6 hown hK hP 1 (wC_1 _ _ _ _ _) rfl 4 (by decide) (hts (.fieldLink RX6 41 "CallGraphs$Types" "allFaces" "J") (List.mem_of_getElem? (i := 4) rfl)) (fun _ h9 => h9) (fC_1_4 _ _) dX6_add_26 ?_
    refine lv_iload_n hx hb dX6_add_29 rfl (lv_at hl 0 rfl) ?_
    obtain ⟨r_30, hg_30, hf⟩ := oc_e hf
    refine mS_l (D := D) (As := [.long (s_18.2 1 4), .int (σ.1 1 5)]) (rest := [.ref (ad 1)]) ⟨hx, hb, hml, hown, hts⟩ hP hS (c_X0_with l (s_18.2 1 4) (σ.1 1 5) hg_30) (va_cwS 2 hts gX6_add_X0_with rfl rfl rfl hd_X0_with ⟨Nat.le_trans (Nat.le_of_ble_eq_true rfl) hR.1, Nat.le_trans (Nat.le_of_ble_eq_true rfl) hR.2⟩) rfl hl.1 rfl (Nat.le_of_ble_eq_true rfl) dX6_add_30 (fun H locs hP hS => ?_)
    refine va_put (D := D) (ci := 5) (v := .long r_30) (ty := .long) (C := RX6) (T := TX6) (N := 6) hx hb hts in_X6_add_X6 tyX6 tyX6_ok nmX6 hown hK hP (hD _) hS 1 (wC_1 _ _ _ _ _) rfl 4 (by decide) (hts (.fieldLink RX6 41 "CallGraphs$Types" "allFaces" "J") (List.mem_of_getElem? (i := 4) rfl)) (fun _ h9 => h9) rfl (tyX6_ok 4 (by decide)) rfl rfl (Nat.le_of_ble_eq_true rfl) dX6_add_33 (fun H locs hP _ hS => ?_)
    have hP := wC_p1_4 hP
    obtain ⟨s_33, es_33, hf⟩ := os_e hf
    rw [← es_33] at hP
    exact w_X6_add_36 hm hR hK hD (σ.1 1 5) s_33 hf _ _ _ hP hS (lv_sub hl [1, 0] rfl)
theorem hd_X6_add : yX6_add.cls = RX6 ∧ yX6_add.cls ≠ "java/lang/invoke/MethodHandle" ∧ yX6_add.cls ≠ "java/lang/invoke/VarHandle" ∧ (parseMethodDescriptor yX6_add.desc).map (fun d => d.parameters.length) = some 2 := by decide +kernel
set_option maxHeartbeats 4000000 in
set_option maxRecDepth 100000 in
theorem c_X6_add (l : Launch) (D : va_G) (ad : Nat → Nat) (cI cJ cZ : ClassId) (σ : SS) (v1 : Int32) (v2 : Int32) {res : Int32 × SS} (hf : p_X6_add_0 v1 v2 σ = some res) : Met l yX6_add wsX6_add ({ frames := 2, cells := 0, slots := 0, locals := 48 } : Room) (PW D (tyw cI cJ cZ) (wC ad cI cJ cZ σ) [.ref (ad 1), .int v1, .int v2]) (va_Qi (fun (r : Int32) (u : SS) => (r, u) = res) (fun u t => va_P D vwCl (wC ad cI cJ cZ u) t.heap) (aC ad)) 0 0 (aC ad) := by
  refine Met.ofW (cc := cX6_add) (maxL := 4) (ret := (some .int)) (by decide) rfl ?_
  intro p e s m args below meth c s₁ B hml hv
  obtain ⟨rfl, hP, hK, hD0⟩ := hv
  have hD : ∀ σ, va_D (aC ad) (wC ad cI cJ cZ σ) := fun σ => wd_D hD0 (wC_map _ _ _ _ _) (wC_map _ _ _ _ _)
  have hm : mx p s m _ meth c cX6_add 4 (some .int) wsX6_add RX6 := ⟨B.exec, B.bytes, B.returns, hml, findClass_of_methodNamed B.named, atoms_spec (ws := wsX6_add) B.pre, B.notSynchronized⟩
  have hl := lv_entry ([.ref (ad 1), .int v1, .int v2]) (n := 4) (Nat.le_of_ble_eq_true rfl)
  rw [lg_entry_eq]
  generalize (lg_sl ([.ref (ad 1), .int v1, .int v2]) ++ List.replicate (4 - (lg_sl ([.ref (ad 1), .int v1, .int v2])).length) Slot.unset).toArray = ls at hl ⊢
  exact w_X6_add_0 hm ⟨Nat.le_refl _, Nat.le_refl _⟩ hK hD v1 v2 σ hf _ _ _ hP va_S.rf hl
/-! CallGraphs$Types.addFace(II)I -/
theorem in_X6_addFace_X6 : ∀ w ∈ u_ws RX6 TX6 6, w ∈ wsX6_addFace := fun w h => List.mem_cons_of_mem _ (List.mem_append_right _ h)
def p_X6_addFace_0 (v1 : Int32) (v2 : Int32) (σ : SS) : Option (Int32 × SS) := oi v1 16 (oc (p_X0_with_0 (σ.2 9 v1.toNatClampNeg) v2) (fun r_12 => oi v1 16 (os (sL σ 9 (v1.toNatClampNeg) r_12) (fun s_15 => oc (p_X6_tellAbove_0 s_15) (fun r_17 => oc (p_X6_countFaces_0 r_17 v1) (fun r_22 => some (r_22, r_17)))))))
set_option maxHeartbeats 4000000 in
set_option maxRecDepth 100000 in
theorem w_X6_addFace_0 {p : Program} {l : Launch} {e : Env} {R : Room} {s : State} {m : MethodId} {args : Array Value} {below : List Frame} {meth : Method} {c : Code} {D : va_G} {ad : Nat → Nat} {cI cJ cZ : ClassId} {res : Int32 × SS} (hm : mx p s m args meth c cX6_addFace 3 (some .int) wsX6_addFace RX6) (hR : 2 ≤ R.frames ∧ 48 ≤ R.locals) (hK : va_K D vwCl (tyw cI cJ cZ) s) (hD : ∀ σ, va_D (aC ad) (wC ad cI cJ cZ σ)) (v1 : Int32) (v2 : Int32) (σ : SS) (hf : p_X6_addFace_0 v1 v2 σ = some res) (H : Heap) (locs : List Loc) (ls : Array Slot) (hP : va_P D vwCl (wC ad cI cJ cZ σ) H) (hS : va_S (aC ad) s.heap H locs) (hl : lv_has ls 3 [(0, .ref (ad 1)), (1, .int v1), (2, .int v2)]) : W p l e R s m args below meth c H locs 0 0 (MQ below (va_Qi (fun (r : Int32) (u : SS) => (r, u) = res) (fun u t => va_P D vwCl (wC ad cI cJ cZ u) t.heap) (aC ad)) args s 0 0 (aC ad)) (F0 m 0 ls []) := by
  obtain ⟨hx, hb, hr, hml, hown, hts, hlk⟩ := id hm
  unfold p_X6_addFace_0 at hf
  refine lv_aload_n hx hb dX6_addFace_0 rfl (lv_at hl 0 rfl) ?_
  refine va_get (D := D) (ci := 5) (v := .ref (ad 9)) (C := RX6) (T := TX6) (N := 6) hx hb hts in_X6_addFace_X6 hown hK hP 1 (wC_1 _ _ _ _ _) rfl 2 (by decide) (hts (.fieldLink RX6 18 "CallGraphs$Types" "faces" "[J") (List.mem_of_getElem? (i := 1) rfl)) (fun _ h9 => h9) (fC_1_2 _ _) dX6_addFace_1 ?_
  refine lv_iload_n hx hb dX6_addFace_4 rfl (lv_at hl 1 rfl) ?_
  refine lv_aload_n hx hb dX6_addFace_5 rfl (lv_at hl 0 rfl) ?_
  refine va_get (D := D) (ci := 5) (v := .ref (ad 9)) (C := RX6) (T := TX6) (N := 6) hx hb hts in_X6_addFace_X6 hown hK hP 1 (wC_1 _ _ _ _ _) rfl 2 (by decide) (hts (.fieldLink RX6 18 "CallGraphs$Types" "faces" "[J") (List.mem_of_getElem? (i := 1) rfl)) (fun _ h9 => h9) (fC_1_2 _ _) dX6_addFace_6 ?_
  refine lv_iload_n hx hb dX6_addFace_9 rfl (lv_at hl 1 rfl) ?_
  obtain ⟨h_10, hf⟩ := oi_e hf
  refine va_lald hx hb hK hP 9 1 (wC_9 _ _ _ _ _) rfl h_10 dX6_addFace_10 ?_
  refine lv_iload_n hx hb dX6_addFace_11 rfl (lv_at hl 2 rfl) ?_
  obtain ⟨r_12, hg_12, hf⟩ := oc_e hf
  refine mS_l (D := D) (As := [.long (σ.2 9 v1.toNatClampNeg), .int v2]) (rest := [.int v1, .ref (ad 9)]) ⟨hx, hb, hml, hown, hts⟩ hP hS (c_X0_with l (σ.2 9 v1.toNatClampNeg) v2 hg_12) (va_cwS 2 hts gX6_addFace_X0_with rfl rfl rfl hd_X0_with ⟨Nat.le_trans (Nat.le_of_ble_eq_true rfl) hR.1, Nat.le_trans (Nat.le_of_ble_eq_true rfl) hR.2⟩) rfl hl.1 rfl (Nat.le_of_ble_eq_true rfl) dX6_addFace_12 (fun H locs hP hS => ?_)
  obtain ⟨h_15, hf⟩ := oi_e hf
  refine va_last hx hb hK hP (hD _) hS 9 1 (wC_9 _ _ _ _ _) rfl h_15 dX6_addFace_15 (fun H locs hP _ hS => ?_)
  have hP := wC_s9 hP
  obtain ⟨s_15, es_15, hf⟩ := os_e hf
  rw [← es_15] at hP
  refine lv_aload_n hx hb dX6_addFace_16 rfl (lv_at hl 0 rfl) ?_
  obtain ⟨r_17, hg_17, hf⟩ := oc_e hf
  refine mV_wv (wd := wC ad cI cJ cZ) (σ := s_15) (As := []) (rest := []) ⟨hx, hb, hml, hown, hts⟩ hK hP hD hS (c_X6_tellAbove l D ad cI cJ cZ s_15 hg_17) (cwV 0 hts gX6_addFace_X6_tellAbove rfl rfl rfl hd_X6_tellAbove ⟨Nat.le_trans (Nat.le_of_ble_eq_true rfl) hR.1, Nat.le_trans (Nat.le_of_ble_eq_true rfl) hR.2⟩) rfl (wC_1 _ _ _ _ _) rfl hl.1 rfl (Nat.le_of_ble_eq_true rfl) dX6_addFace_17 (fun H locs hP hS => ?_)
  refine lv_aload_n hx hb dX6_addFace_20 rfl (lv_at hl 0 rfl) ?_
  refine lv_iload_n hx hb dX6_addFace_21 rfl (lv_at hl 1 rfl) ?_
  obtain ⟨r_22, hg_22, hf⟩ := oc_e hf
  refine mV_ri (wd := wC ad cI cJ cZ) (σ := r_17) (As := [.int v1]) (rest := []) ⟨hx, hb, hml, hown, hts⟩ hK hP hD hS (c_X6_countFaces l D ad cI cJ cZ r_17 v1 hg_22) (cwV 1 hts gX6_addFace_X6_countFaces rfl rfl rfl hd_X6_countFaces ⟨Nat.le_trans (Nat.le_of_ble_eq_true rfl) hR.1, Nat.le_trans (Nat.le_of_ble_eq_true rfl) hR.2⟩) rfl (wC_1 _ _ _ _ _) rfl hl.1 rfl (Nat.le_of_ble_eq_true rfl) dX6_addFace_22 (fun H locs hP hS => ?_)
  exact rt_i (wd := wC ad cI cJ cZ) hx hb hr hlk (Option.some.inj hf) hP hS dX6_addFace_25
theorem hd_X6_addFace : yX6_addFace.cls = RX6 ∧ yX6_addFace.cls ≠ "java/lang/invoke/MethodHandle" ∧ yX6_addFace.cls ≠ "java/lang/invoke/VarHandle" ∧ (parseMethodDescriptor yX6_addFace.desc).map (fun d => d.parameters.length) = some 2 := by decide +kernel
set_option maxHeartbeats 4000000 in
set_option maxRecDepth 100000 in
theorem c_X6_addFace (l : Launch) (D : va_G) (ad : Nat → Nat) (cI cJ cZ : ClassId) (σ : SS) (v1 : Int32) (v2 : Int32) {res : Int32 × SS} (hf : p_X6_addFace_0 v1 v2 σ = some res) : Met l yX6_addFace wsX6_addFace ({ frames := 2, cells := 0, slots := 0, locals := 48 } : Room) (PW D (tyw cI cJ cZ) (wC ad cI cJ cZ σ) [.ref (ad 1), .int v1, .int v2]) (va_Qi (fun (r : Int32) (u : SS) => (r, u) = res) (fun u t => va_P D vwCl (wC ad cI cJ cZ u) t.heap) (aC ad)) 0 0 (aC ad) := by
  refine Met.ofW (cc := cX6_addFace) (maxL := 3) (ret := (some .int)) (by decide) rfl ?_
  intro p e s m args below meth c s₁ B hml hv
  obtain ⟨rfl, hP, hK, hD0⟩ := hv
  have hD : ∀ σ, va_D (aC ad) (wC ad cI cJ cZ σ) := fun σ => wd_D hD0 (wC_map _ _ _ _ _) (wC_map _ _ _ _ _)
  have hm : mx p s m _ meth c cX6_addFace 3 (some .int) wsX6_addFace RX6 := ⟨B.exec, B.bytes, B.returns, hml, findClass_of_methodNamed B.named, atoms_spec (ws := wsX6_addFace) B.pre, B.notSynchronized⟩
  have hl := lv_entry ([.ref (ad 1), .int v1, .int v2]) (n := 3) (Nat.le_of_ble_eq_true rfl)
  rw [lg_entry_eq]
  generalize (lg_sl ([.ref (ad 1), .int v1, .int v2]) ++ List.replicate (3 - (lg_sl ([.ref (ad 1), .int v1, .int v2])).length) Slot.unset).toArray = ls at hl ⊢
  exact w_X6_addFace_0 hm ⟨Nat.le_refl _, Nat.le_refl _⟩ hK hD v1 v2 σ hf _ _ _ hP va_S.rf hl
