/-! CallGraphs$Members.named(II)I -/
theorem in_X4_named_X4 : ∀ w ∈ u_ws RX4 TX4 11, w ∈ wsX4_named := fun w h => List.mem_cons_of_mem _ (List.mem_append_right _ h)
def p_X4_named_0 (σ : SS) (v1 : Int32) (v2 : Int32) : Option (Int32) := oi ((v1 * 10) + v2) 160 (some (σ.1 13 ((v1 * 10) + v2).toNatClampNeg))
set_option maxHeartbeats 4000000 in
set_option maxRecDepth 100000 in
theorem w_X4_named_0 {p : Program} {l : Launch} {e : Env} {R : Room} {s : State} {m : MethodId} {args : Array Value} {below : List Frame} {meth : Method} {c : Code} {D : va_G} {ad : Nat → Nat} {cI cJ cZ : ClassId} {res : Int32} (hm : mx p s m args meth c cX4_named 3 (some .int) wsX4_named RX4) (hR : 0 ≤ R.frames ∧ 0 ≤ R.locals) (hK : va_K D vwCl (tyw cI cJ cZ) s) (hD : ∀ σ, va_D (aC ad) (wC ad cI cJ cZ σ)) (σ : SS) (v1 : Int32) (v2 : Int32) (hf : p_X4_named_0 σ v1 v2 = some res) (H : Heap) (locs : List Loc) (ls : Array Slot) (hP : va_P D vwCl (wC ad cI cJ cZ σ) H) (hS : va_S (aC ad) s.heap H locs) (hl : lv_has ls 3 [(0, .ref (ad 2)), (1, .int v1), (2, .int v2)]) : W p l e R s m args below meth c H locs 0 0 (MQ below (va_Qi (fun (r : Int32) (u : SS) => r = res ∧ u = σ) (fun u t => va_P D vwCl (wC ad cI cJ cZ u) t.heap) (aC ad)) args s 0 0 (aC ad)) (F0 m 0 ls []) := by
  obtain ⟨hx, hb, hr, hml, hown, hts, hlk⟩ := id hm
  unfold p_X4_named_0 at hf
  refine lv_aload_n hx hb dX4_named_0 rfl (lv_at hl 0 rfl) ?_
  refine va_get (D := D) (ci := 3) (v := .ref (ad 13)) (C := RX4) (T := TX4) (N := 11) hx hb hts in_X4_named_X4 hown hK hP 2 (wC_2 _ _ _ _ _) rfl 3 (by decide) (hts (.fieldLink RX4 18 "CallGraphs$Members" "byName" "[I") (List.mem_of_getElem? (i := 1) rfl)) (fun _ h9 => h9) (fC_2_3 _ _) dX4_named_1 ?_
  refine lv_iload_n hx hb dX4_named_4 rfl (lv_at hl 1 rfl) ?_
  refine lv_bipush (v := 10) hx hb dX4_named_5 (by decide) ?_
  refine lv_imul hx hb dX4_named_7 ?_
  refine lv_iload_n hx hb dX4_named_8 rfl (lv_at hl 2 rfl) ?_
  refine lv_iadd hx hb dX4_named_9 ?_
  obtain ⟨h_10, hf⟩ := oi_e hf
  refine va_iald hx hb hK hP 13 0 (wC_13 _ _ _ _ _) rfl h_10 dX4_named_10 ?_
  exact rt_i (wd := wC ad cI cJ cZ) hx hb hr hlk ⟨Option.some.inj hf, rfl⟩ hP hS dX4_named_11
theorem hd_X4_named : yX4_named.cls = RX4 ∧ yX4_named.cls ≠ "java/lang/invoke/MethodHandle" ∧ yX4_named.cls ≠ "java/lang/invoke/VarHandle" ∧ (parseMethodDescriptor yX4_named.desc).map (fun d => d.parameters.length) = some 2 := by decide +kernel
set_option maxHeartbeats 4000000 in
set_option maxRecDepth 100000 in
theorem c_X4_named (l : Launch) (D : va_G) (ad : Nat → Nat) (cI cJ cZ : ClassId) (σ : SS) (v1 : Int32) (v2 : Int32) {res : Int32} (hf : p_X4_named_0 σ v1 v2 = some res) : Met l yX4_named wsX4_named ({ frames := 0, cells := 0, slots := 0, locals := 0 } : Room) (PW D (tyw cI cJ cZ) (wC ad cI cJ cZ σ) [.ref (ad 2), .int v1, .int v2]) (va_Qi (fun (r : Int32) (u : SS) => r = res ∧ u = σ) (fun u t => va_P D vwCl (wC ad cI cJ cZ u) t.heap) (aC ad)) 0 0 (aC ad) := by
  refine Met.ofW (cc := cX4_named) (maxL := 3) (ret := (some .int)) (by decide) rfl ?_
  intro p e s m args below meth c s₁ B hml hv
  obtain ⟨rfl, hP, hK, hD0⟩ := hv
  have hD : ∀ σ, va_D (aC ad) (wC ad cI cJ cZ σ) := fun σ => wd_D hD0 (wC_map _ _ _ _ _) (wC_map _ _ _ _ _)
  have hm : mx p s m _ meth c cX4_named 3 (some .int) wsX4_named RX4 := ⟨B.exec, B.bytes, B.returns, hml, findClass_of_methodNamed B.named, atoms_spec (ws := wsX4_named) B.pre, B.notSynchronized⟩
  have hl := lv_entry ([.ref (ad 2), .int v1, .int v2]) (n := 3) (Nat.le_of_ble_eq_true rfl)
  rw [lg_entry_eq]
  generalize (lg_sl ([.ref (ad 2), .int v1, .int v2]) ++ List.replicate (3 - (lg_sl ([.ref (ad 2), .int v1, .int v2])).length) Slot.unset).toArray = ls at hl ⊢
  exact w_X4_named_0 hm ⟨Nat.le_refl _, Nat.le_refl _⟩ hK hD σ v1 v2 hf _ _ _ hP va_S.rf hl
/-! CallGraphs$Members.passersOf(I)J -/
theorem in_X4_passersOf_X4 : ∀ w ∈ u_ws RX4 TX4 11, w ∈ wsX4_passersOf := fun w h => List.mem_cons_of_mem _ (List.mem_append_right _ h)
def p_X4_passersOf_0 (σ : SS) (v1 : Int32) : Option (Int64) := oi v1 10 (some (σ.2 16 v1.toNatClampNeg))
set_option maxHeartbeats 4000000 in
set_option maxRecDepth 100000 in
theorem w_X4_passersOf_0 {p : Program} {l : Launch} {e : Env} {R : Room} {s : State} {m : MethodId} {args : Array Value} {below : List Frame} {meth : Method} {c : Code} {D : va_G} {ad : Nat → Nat} {cI cJ cZ : ClassId} {res : Int64} (hm : mx p s m args meth c cX4_passersOf 2 (some .long) wsX4_passersOf RX4) (hR : 0 ≤ R.frames ∧ 0 ≤ R.locals) (hK : va_K D vwCl (tyw cI cJ cZ) s) (hD : ∀ σ, va_D (aC ad) (wC ad cI cJ cZ σ)) (σ : SS) (v1 : Int32) (hf : p_X4_passersOf_0 σ v1 = some res) (H : Heap) (locs : List Loc) (ls : Array Slot) (hP : va_P D vwCl (wC ad cI cJ cZ σ) H) (hS : va_S (aC ad) s.heap H locs) (hl : lv_has ls 2 [(0, .ref (ad 2)), (1, .int v1)]) : W p l e R s m args below meth c H locs 0 0 (MQ below (va_Ql (fun (r : Int64) (u : SS) => r = res ∧ u = σ) (fun u t => va_P D vwCl (wC ad cI cJ cZ u) t.heap) (aC ad)) args s 0 0 (aC ad)) (F0 m 0 ls []) := by
  obtain ⟨hx, hb, hr, hml, hown, hts, hlk⟩ := id hm
  unfold p_X4_passersOf_0 at hf
  refine lv_aload_n hx hb dX4_passersOf_0 rfl (lv_at hl 0 rfl) ?_
  refine va_get (D := D) (ci := 3) (v := .ref (ad 16)) (C := RX4) (T := TX4) (N := 11) hx hb hts in_X4_passersOf_X4 hown hK hP 2 (wC_2 _ _ _ _ _) rfl 6 (by decide) (hts (.fieldLink RX4 28 "CallGraphs$Members" "passers" "[J") (List.mem_of_getElem? (i := 1) rfl)) (fun _ h9 => h9) (fC_2_6 _ _) dX4_passersOf_1 ?_
  refine lv_iload_n hx hb dX4_passersOf_4 rfl (lv_at hl 1 rfl) ?_
  obtain ⟨h_5, hf⟩ := oi_e hf
  refine va_lald hx hb hK hP 16 1 (wC_16 _ _ _ _ _) rfl h_5 dX4_passersOf_5 ?_
  exact rt_l (wd := wC ad cI cJ cZ) hx hb hr hlk ⟨Option.some.inj hf, rfl⟩ hP hS dX4_passersOf_6
theorem hd_X4_passersOf : yX4_passersOf.cls = RX4 ∧ yX4_passersOf.cls ≠ "java/lang/invoke/MethodHandle" ∧ yX4_passersOf.cls ≠ "java/lang/invoke/VarHandle" ∧ (parseMethodDescriptor yX4_passersOf.desc).map (fun d => d.parameters.length) = some 1 := by decide +kernel
set_option maxHeartbeats 4000000 in
set_option maxRecDepth 100000 in
theorem c_X4_passersOf (l : Launch) (D : va_G) (ad : Nat → Nat) (cI cJ cZ : ClassId) (σ : SS) (v1 : Int32) {res : Int64} (hf : p_X4_passersOf_0 σ v1 = some res) : Met l yX4_passersOf wsX4_passersOf ({ frames := 0, cells := 0, slots := 0, locals := 0 } : Room) (PW D (tyw cI cJ cZ) (wC ad cI cJ cZ σ) [.ref (ad 2), .int v1]) (va_Ql (fun (r : Int64) (u : SS) => r = res ∧ u = σ) (fun u t => va_P D vwCl (wC ad cI cJ cZ u) t.heap) (aC ad)) 0 0 (aC ad) := by
  refine Met.ofW (cc := cX4_passersOf) (maxL := 2) (ret := (some .long)) (by decide) rfl ?_
  intro p e s m args below meth c s₁ B hml hv
  obtain ⟨rfl, hP, hK, hD0⟩ := hv
  have hD : ∀ σ, va_D (aC ad) (wC ad cI cJ cZ σ) := fun σ => wd_D hD0 (wC_map _ _ _ _ _) (wC_map _ _ _ _ _)
  have hm : mx p s m _ meth c cX4_passersOf 2 (some .long) wsX4_passersOf RX4 := ⟨B.exec, B.bytes, B.returns, hml, findClass_of_methodNamed B.named, atoms_spec (ws := wsX4_passersOf) B.pre, B.notSynchronized⟩
  have hl := lv_entry ([.ref (ad 2), .int v1]) (n := 2) (Nat.le_of_ble_eq_true rfl)
  rw [lg_entry_eq]
  generalize (lg_sl ([.ref (ad 2), .int v1]) ++ List.replicate (2 - (lg_sl ([.ref (ad 2), .int v1])).length) Slot.unset).toArray = ls at hl ⊢
  exact w_X4_passersOf_0 hm ⟨Nat.le_refl _, Nat.le_refl _⟩ hK hD σ v1 hf _ _ _ hP va_S.rf hl
/-! CallGraphs$Members.sortOf(I)I -/
theorem in_X4_sortOf_X4 : ∀ w ∈ u_ws RX4 TX4 11, w ∈ wsX4_sortOf := fun w h => List.mem_cons_of_mem _ (List.mem_append_right _ h)
def p_X4_sortOf_0 (σ : SS) (v1 : Int32) : Option (Int32) := oi v1 48 (some (σ.1 12 v1.toNatClampNeg))
set_option maxHeartbeats 4000000 in
set_option maxRecDepth 100000 in
theorem w_X4_sortOf_0 {p : Program} {l : Launch} {e : Env} {R : Room} {s : State} {m : MethodId} {args : Array Value} {below : List Frame} {meth : Method} {c : Code} {D : va_G} {ad : Nat → Nat} {cI cJ cZ : ClassId} {res : Int32} (hm : mx p s m args meth c cX4_sortOf 2 (some .int) wsX4_sortOf RX4) (hR : 0 ≤ R.frames ∧ 0 ≤ R.locals) (hK : va_K D vwCl (tyw cI cJ cZ) s) (hD : ∀ σ, va_D (aC ad) (wC ad cI cJ cZ σ)) (σ : SS) (v1 : Int32) (hf : p_X4_sortOf_0 σ v1 = some res) (H : Heap) (locs : List Loc) (ls : Array Slot) (hP : va_P D vwCl (wC ad cI cJ cZ σ) H) (hS : va_S (aC ad) s.heap H locs) (hl : lv_has ls 2 [(0, .ref (ad 2)), (1, .int v1)]) : W p l e R s m args below meth c H locs 0 0 (MQ below (va_Qi (fun (r : Int32) (u : SS) => r = res ∧ u = σ) (fun u t => va_P D vwCl (wC ad cI cJ cZ u) t.heap) (aC ad)) args s 0 0 (aC ad)) (F0 m 0 ls []) := by
  obtain ⟨hx, hb, hr, hml, hown, hts, hlk⟩ := id hm
  unfold p_X4_sortOf_0 at hf
  refine lv_aload_n hx hb dX4_sortOf_0 rfl (lv_at hl 0 rfl) ?_
  refine va_get (D := D) (ci := 3) (v := .ref (ad 12)) (C := RX4) (T := TX4) (N := 11) hx hb hts in_X4_sortOf_X4 hown hK hP 2 (wC_2 _ _ _ _ _) rfl 2 (by decide) (hts (.fieldLink RX4 15 "CallGraphs$Members" "sorts" "[I") (List.mem_of_getElem? (i := 1) rfl)) (fun _ h9 => h9) (fC_2_2 _ _) dX4_sortOf_1 ?_
  refine lv_iload_n hx hb dX4_sortOf_4 rfl (lv_at hl 1 rfl) ?_
  obtain ⟨h_5, hf⟩ := oi_e hf
  refine va_iald hx hb hK hP 12 0 (wC_12 _ _ _ _ _) rfl h_5 dX4_sortOf_5 ?_
  exact rt_i (wd := wC ad cI cJ cZ) hx hb hr hlk ⟨Option.some.inj hf, rfl⟩ hP hS dX4_sortOf_6
theorem hd_X4_sortOf : yX4_sortOf.cls = RX4 ∧ yX4_sortOf.cls ≠ "java/lang/invoke/MethodHandle" ∧ yX4_sortOf.cls ≠ "java/lang/invoke/VarHandle" ∧ (parseMethodDescriptor yX4_sortOf.desc).map (fun d => d.parameters.length) = some 1 := by decide +kernel
set_option maxHeartbeats 4000000 in
set_option maxRecDepth 100000 in
theorem c_X4_sortOf (l : Launch) (D : va_G) (ad : Nat → Nat) (cI cJ cZ : ClassId) (σ : SS) (v1 : Int32) {res : Int32} (hf : p_X4_sortOf_0 σ v1 = some res) : Met l yX4_sortOf wsX4_sortOf ({ frames := 0, cells := 0, slots := 0, locals := 0 } : Room) (PW D (tyw cI cJ cZ) (wC ad cI cJ cZ σ) [.ref (ad 2), .int v1]) (va_Qi (fun (r : Int32) (u : SS) => r = res ∧ u = σ) (fun u t => va_P D vwCl (wC ad cI cJ cZ u) t.heap) (aC ad)) 0 0 (aC ad) := by
  refine Met.ofW (cc := cX4_sortOf) (maxL := 2) (ret := (some .int)) (by decide) rfl ?_
  intro p e s m args below meth c s₁ B hml hv
  obtain ⟨rfl, hP, hK, hD0⟩ := hv
  have hD : ∀ σ, va_D (aC ad) (wC ad cI cJ cZ σ) := fun σ => wd_D hD0 (wC_map _ _ _ _ _) (wC_map _ _ _ _ _)
  have hm : mx p s m _ meth c cX4_sortOf 2 (some .int) wsX4_sortOf RX4 := ⟨B.exec, B.bytes, B.returns, hml, findClass_of_methodNamed B.named, atoms_spec (ws := wsX4_sortOf) B.pre, B.notSynchronized⟩
  have hl := lv_entry ([.ref (ad 2), .int v1]) (n := 2) (Nat.le_of_ble_eq_true rfl)
  rw [lg_entry_eq]
  generalize (lg_sl ([.ref (ad 2), .int v1]) ++ List.replicate (2 - (lg_sl ([.ref (ad 2), .int v1])).length) Slot.unset).toArray = ls at hl ⊢
  exact w_X4_sortOf_0 hm ⟨Nat.le_refl _, Nat.le_refl _⟩ hK hD σ v1 hf _ _ _ hP va_S.rf hl
/-! CallGraphs$Members.plainOnes()J -/
theorem in_X4_plainOnes_X4 : ∀ w ∈ u_ws RX4 TX4 11, w ∈ wsX4_plainOnes := fun w h => List.mem_cons_of_mem _ (List.mem_append_right _ h)
def p_X4_plainOnes_0 (σ : SS) : Option (Int64) := some (σ.2 2 7)
set_option maxHeartbeats 4000000 in
set_option maxRecDepth 100000 in
theorem w_X4_plainOnes_0 {p : Program} {l : Launch} {e : Env} {R : Room} {s : State} {m : MethodId} {args : Array Value} {below : List Frame} {meth : Method} {c : Code} {D : va_G} {ad : Nat → Nat} {cI cJ cZ : ClassId} {res : Int64} (hm : mx p s m args meth c cX4_plainOnes 1 (some .long) wsX4_plainOnes RX4) (hR : 0 ≤ R.frames ∧ 0 ≤ R.locals) (hK : va_K D vwCl (tyw cI cJ cZ) s) (hD : ∀ σ, va_D (aC ad) (wC ad cI cJ cZ σ)) (σ : SS) (hf : p_X4_plainOnes_0 σ = some res) (H : Heap) (locs : List Loc) (ls : Array Slot) (hP : va_P D vwCl (wC ad cI cJ cZ σ) H) (hS : va_S (aC ad) s.heap H locs) (hl : lv_has ls 1 [(0, .ref (ad 2))]) : W p l e R s m args below meth c H locs 0 0 (MQ below (va_Ql (fun (r : Int64) (u : SS) => r = res ∧ u = σ) (fun u t => va_P D vwCl (wC ad cI cJ cZ u) t.heap) (aC ad)) args s 0 0 (aC ad)) (F0 m 0 ls []) := by
  obtain ⟨hx, hb, hr, hml, hown, hts, hlk⟩ := id hm
  unfold p_X4_plainOnes_0 at hf
  refine lv_aload_n hx hb dX4_plainOnes_0 rfl (lv_at hl 0 rfl) ?_
  refine va_get (D := D) (ci := 3) (v := .long (σ.2 2 7)) (C := RX4) (T := TX4) (N := 11) hx hb hts in_X4_plainOnes_X4 hown hK hP 2 (wC_2 _ _ _ _ _) rfl 7 (by decide) (hts (.fieldLink RX4 45 "CallGraphs$Members" "plain" "J") (List.mem_of_getElem? (i := 1) rfl)) (fun _ h9 => h9) (fC_2_7 _ _) dX4_plainOnes_1 ?_
  exact rt_l (wd := wC ad cI cJ cZ) hx hb hr hlk ⟨Option.some.inj hf, rfl⟩ hP hS dX4_plainOnes_4
theorem hd_X4_plainOnes : yX4_plainOnes.cls = RX4 ∧ yX4_plainOnes.cls ≠ "java/lang/invoke/MethodHandle" ∧ yX4_plainOnes.cls ≠ "java/lang/invoke/VarHandle" ∧ (parseMethodDescriptor yX4_plainOnes.desc).map (fun d => d.parameters.length) = some 0 := by decide +kernel
set_option maxHeartbeats 4000000 in
set_option maxRecDepth 100000 in
theorem c_X4_plainOnes (l : Launch) (D : va_G) (ad : Nat → Nat) (cI cJ cZ : ClassId) (σ : SS) {res : Int64} (hf : p_X4_plainOnes_0 σ = some res) : Met l yX4_plainOnes wsX4_plainOnes ({ frames := 0, cells := 0, slots := 0, locals := 0 } : Room) (PW D (tyw cI cJ cZ) (wC ad cI cJ cZ σ) [.ref (ad 2)]) (va_Ql (fun (r : Int64) (u : SS) => r = res ∧ u = σ) (fun u t => va_P D vwCl (wC ad cI cJ cZ u) t.heap) (aC ad)) 0 0 (aC ad) := by
  refine Met.ofW (cc := cX4_plainOnes) (maxL := 1) (ret := (some .long)) (by decide) rfl ?_
  intro p e s m args below meth c s₁ B hml hv
  obtain ⟨rfl, hP, hK, hD0⟩ := hv
  have hD : ∀ σ, va_D (aC ad) (wC ad cI cJ cZ σ) := fun σ => wd_D hD0 (wC_map _ _ _ _ _) (wC_map _ _ _ _ _)
  have hm : mx p s m _ meth c cX4_plainOnes 1 (some .long) wsX4_plainOnes RX4 := ⟨B.exec, B.bytes, B.returns, hml, findClass_of_methodNamed B.named, atoms_spec (ws := wsX4_plainOnes) B.pre, B.notSynchronized⟩
  have hl := lv_entry ([.ref (ad 2)]) (n := 1) (Nat.le_of_ble_eq_true rfl)
  rw [lg_entry_eq]
  generalize (lg_sl ([.ref (ad 2)]) ++ List.replicate (1 - (lg_sl ([.ref (ad 2)])).length) Slot.unset).toArray = ls at hl ⊢
  exact w_X4_plainOnes_0 hm ⟨Nat.le_refl _, Nat.le_refl _⟩ hK hD σ hf _ _ _ hP va_S.rf hl
/-! CallGraphs$Members.facesBegunWith(I)J -/
theorem in_X4_facesBegunWith_X4 : ∀ w ∈ u_ws RX4 TX4 11, w ∈ wsX4_facesBegunWith := fun w h => List.mem_cons_of_mem _ (List.mem_append_left _ (List.mem_append_right _ h))
def p_X4_facesBegunWith_28 (σ : SS) (t0 : Int64) : Option (Int64) := some t0
set_option maxHeartbeats 4000000 in
set_option maxRecDepth 100000 in
theorem w_X4_facesBegunWith_28 {p : Program} {l : Launch} {e : Env} {R : Room} {s : State} {m : MethodId} {args : Array Value} {below : List Frame} {meth : Method} {c : Code} {D : va_G} {ad : Nat → Nat} {cI cJ cZ : ClassId} {res : Int64} (hm : mx p s m args meth c cX4_facesBegunWith 2 (some .long) wsX4_facesBegunWith RX4) (hR : 1 ≤ R.frames ∧ 21 ≤ R.locals) (hK : va_K D vwCl (tyw cI cJ cZ) s) (hD : ∀ σ, va_D (aC ad) (wC ad cI cJ cZ σ)) (σ : SS) (t0 : Int64) (hf : p_X4_facesBegunWith_28 σ t0 = some res) (H : Heap) (locs : List Loc) (ls : Array Slot) (hP : va_P D vwCl (wC ad cI cJ cZ σ) H) (hS : va_S (aC ad) s.heap H locs) (hl : lv_has ls 2 []) : W p l e R s m args below meth c H locs 0 0 (MQ below (va_Ql (fun (r : Int64) (u : SS) => r = res ∧ u = σ) (fun u t => va_P D vwCl (wC ad cI cJ cZ u) t.heap) (aC ad)) args s 0 0 (aC ad)) (F0 m 28 ls [.long t0]) := by
  obtain ⟨hx, hb, hr, hml, hown, hts, hlk⟩ := id hm
  unfold p_X4_facesBegunWith_28 at hf
  exact rt_l (wd := wC ad cI cJ cZ) hx hb hr hlk ⟨Option.some.inj hf, rfl⟩ hP hS dX4_facesBegunWith_28
def p_X4_facesBegunWith_0 (σ : SS) (v1 : Int32) : Option (Int64) := oc (p_X6_isFace_0 σ v1) (fun r_5 => if r_5 = 0 then oc (p_X6_facesAbove_0 σ v1) (fun r_20 => p_X4_facesBegunWith_28 σ (r_20 &&& (σ.2 2 8))) else p_X4_facesBegunWith_28 σ 0)
set_option maxHeartbeats 4000000 in
set_option maxRecDepth 100000 in
theorem w_X4_facesBegunWith_0 {p : Program} {l : Launch} {e : Env} {R : Room} {s : State} {m : MethodId} {args : Array Value} {below : List Frame} {meth : Method} {c : Code} {D : va_G} {ad : Nat → Nat} {cI cJ cZ : ClassId} {res : Int64} (hm : mx p s m args meth c cX4_facesBegunWith 2 (some .long) wsX4_facesBegunWith RX4) (hR : 1 ≤ R.frames ∧ 21 ≤ R.locals) (hK : va_K D vwCl (tyw cI cJ cZ) s) (hD : ∀ σ, va_D (aC ad) (wC ad cI cJ cZ σ)) (σ : SS) (v1 : Int32) (hf : p_X4_facesBegunWith_0 σ v1 = some res) (H : Heap) (locs : List Loc) (ls : Array Slot) (hP : va_P D vwCl (wC ad cI cJ cZ σ) H) (hS : va_S (aC ad) s.heap H locs) (hl : lv_has ls 2 [(0, .ref (ad 2)), (1, .int v1)]) : W p l e R s m args below meth c H locs 0 0 (MQ below (va_Ql (fun (r : Int64) (u : SS) => r = res ∧ u = σ) (fun u t => va_P D vwCl (wC ad cI cJ cZ u) t.heap) (aC ad)) args s 0 0 (aC ad)) (F0 m 0 ls []) := by
  obtain ⟨hx, hb, hr, hml, hown, hts, hlk⟩ := id hm
  unfold p_X4_facesBegunWith_0 at hf
  refine lv_aload_n hx hb dX4_facesBegunWith_0 rfl (lv_at hl 0 rfl) ?_
  refine va_get (D := D) (ci := 3) (v := .ref (ad 1)) (C := RX4) (T := TX4) (N := 11) hx hb hts in_X4_facesBegunWith_X4 hown hK hP 2 (wC_2 _ _ _ _ _) rfl 0 (by decide) (hts (.fieldLink RX4 31 "CallGraphs$Members" "types" "LCallGraphs$Types;") (List.mem_of_getElem? (i := 1) rfl)) (fun _ h9 => h9) (fC_2_0 _ _) dX4_facesBegunWith_1 ?_
  refine lv_iload_n hx hb dX4_facesBegunWith_4 rfl (lv_at hl 1 rfl) ?_
  obtain ⟨r_5, hg_5, hf⟩ := oc_e hf
  refine mV_ri (wd := wC ad cI cJ cZ) (σ := σ) (As := [.int v1]) (rest := []) ⟨hx, hb, hml, hown, hts⟩ hK hP hD hS (c_X6_isFace l D ad cI cJ cZ σ v1 hg_5) (cwV 1 hts gX4_facesBegunWith_X6_isFace rfl rfl rfl hd_X6_isFace ⟨Nat.le_trans (Nat.le_of_ble_eq_true rfl) hR.1, Nat.le_trans (Nat.le_of_ble_eq_true rfl) hR.2⟩) rfl (wC_1 _ _ _ _ _) rfl hl.1 rfl (Nat.le_of_ble_eq_true rfl) dX4_facesBegunWith_5 (fun H locs hP hS => ?_)
  refine lv_if_eq (tgt := 15) hx hb dX4_facesBegunWith_8 (by decide) (fun c_8 => ?_) (fun c_8 => ?_)
  · rw [if_pos c_8] at hf
    refine lv_aload_n hx hb dX4_facesBegunWith_15 rfl (lv_at hl 0 rfl) ?_
    refine va_get (D := D) (ci := 3) (v := .ref (ad 1)) (C := RX4) (T := TX4) (N := 11) hx hb hts in_X4_facesBegunWith_X4 hown hK hP 2 (wC_2 _ _ _ _ _) rfl 0 (by decide) (hts (.fieldLink RX4 31 "CallGraphs$Members" "types" "LCallGraphs$Types;") (List.mem_of_getElem? (i := 1) rfl)) (fun _ h9 => h9) (fC_2_0 _ _) dX4_facesBegunWith_16 ?_
    refine lv_iload_n hx hb dX4_facesBegunWith_19 rfl (lv_at hl 1 rfl) ?_
    obtain ⟨r_20, hg_20, hf⟩ := oc_e hf
    refine mV_rl (wd := wC ad cI cJ cZ) (σ := σ) (As := [.int v1]) (rest := []) ⟨hx, hb, hml, hown, hts⟩ hK hP hD hS (c_X6_facesAbove l D ad cI cJ cZ σ v1 hg_20) (cwV 1 hts gX4_facesBegunWith_X6_facesAbove rfl rfl rfl hd_X6_facesAbove ⟨Nat.le_trans (Nat.le_of_ble_eq_true rfl) hR.1, Nat.le_trans (Nat.le_of_ble_eq_true rfl) hR.2⟩) rfl (wC_1 _ _ _ _ _) rfl hl.1 rfl (Nat.le_of_ble_eq_true rfl) dX4_facesBegunWith_20 (fun H locs hP hS => ?_)
    refine lv_aload_n hx hb dX4_facesBegunWith_23 rfl (lv_at hl 0 rfl) ?_
    refine va_get (D := D) (ci := 3) (v := .long (σ.2 2 8)) (C := RX4) (T := TX4) (N := 11) hx hb hts in_X4_facesBegunWith_X4 hown hK hP 2 (wC_2 _ _ _ _ _) rfl 8 (by decide) (hts (.fieldLink RX4 70 "CallGraphs$Members" "plainTypes" "J") (List.mem_of_getElem? (i := 2) rfl)) (fun _ h9 => h9) (fC_2_8 _ _) dX4_facesBegunWith_24 ?_
    refine lv_land hx hb dX4_facesBegunWith_27 ?_
    exact w_X4_facesBegunWith_28 hm hR hK hD σ (r_20 &&& (σ.2 2 8)) hf _ _ _ hP hS (lv_sub hl [] rfl)
  · rw [if_neg c_8] at hf
    refine lv_lconst (v := 0) hx hb dX4_facesBegunWith_11 (by decide) ?_
    refine lv_goto (tgt := 28) hx hb dX4_facesBegunWith_12 (by decide) ?_
    exact w_X4_facesBegunWith_28 hm hR hK hD σ 0 hf _ _ _ hP hS (lv_sub hl [] rfl)
theorem hd_X4_facesBegunWith : yX4_facesBegunWith.cls = RX4 ∧ yX4_facesBegunWith.cls ≠ "java/lang/invoke/MethodHandle" ∧ yX4_facesBegunWith.cls ≠ "java/lang/invoke/VarHandle" ∧ (parseMethodDescriptor yX4_facesBegunWith.desc).map (fun d => d.parameters.length) = some 1 := by decide +kernel
set_option maxHeartbeats 4000000 in
set_option maxRecDepth 100000 in
theorem c_X4_facesBegunWith (l : Launch) (D : va_G) (ad : Nat → Nat) (cI cJ cZ : ClassId) (σ : SS) (v1 : Int32) {res : Int64} (hf : p_X4_facesBegunWith_0 σ v1 = some res) : Met l yX4_facesBegunWith wsX4_facesBegunWith ({ frames := 1, cells := 0, slots := 0, locals := 21 } : Room) (PW D (tyw cI cJ cZ) (wC ad cI cJ cZ σ) [.ref (ad 2), .int v1]) (va_Ql (fun (r : Int64) (u : SS) => r = res ∧ u = σ) (fun u t => va_P D vwCl (wC ad cI cJ cZ u) t.heap) (aC ad)) 0 0 (aC ad) := by
  refine Met.ofW (cc := cX4_facesBegunWith) (maxL := 2) (ret := (some .long)) (by decide) rfl ?_
  intro p e s m args below meth c s₁ B hml hv
  obtain ⟨rfl, hP, hK, hD0⟩ := hv
  have hD : ∀ σ, va_D (aC ad) (wC ad cI cJ cZ σ) := fun σ => wd_D hD0 (wC_map _ _ _ _ _) (wC_map _ _ _ _ _)
  have hm : mx p s m _ meth c cX4_facesBegunWith 2 (some .long) wsX4_facesBegunWith RX4 := ⟨B.exec, B.bytes, B.returns, hml, findClass_of_methodNamed B.named, atoms_spec (ws := wsX4_facesBegunWith) B.pre, B.notSynchronized⟩
  have hl := lv_entry ([.ref (ad 2), .int v1]) (n := 2) (Nat.le_of_ble_eq_true rfl)
  rw [lg_entry_eq]
  generalize (lg_sl ([.ref (ad 2), .int v1]) ++ List.replicate (2 - (lg_sl ([.ref (ad 2), .int v1])).length) Slot.unset).toArray = ls at hl ⊢
  exact w_X4_facesBegunWith_0 hm ⟨Nat.le_refl _, Nat.le_refl _⟩ hK hD σ v1 hf _ _ _ hP va_S.rf hl
/-! CallGraphs$Members.startOf(I)I -/
theorem in_X4_startOf_X4 : ∀ w ∈ u_ws RX4 TX4 11, w ∈ wsX4_startOf := fun w h => List.mem_cons_of_mem _ (List.mem_append_right _ h)
def p_X4_startOf_0 (σ : SS) (v1 : Int32) : Option (Int32) := oi v1 16 (some (σ.1 14 v1.toNatClampNeg))
set_option maxHeartbeats 4000000 in
set_option maxRecDepth 100000 in
theorem w_X4_startOf_0 {p : Program} {l : Launch} {e : Env} {R : Room} {s : State} {m : MethodId} {args : Array Value} {below : List Frame} {meth : Method} {c : Code} {D : va_G} {ad : Nat → Nat} {cI cJ cZ : ClassId} {res : Int32} (hm : mx p s m args meth c cX4_startOf 2 (some .int) wsX4_startOf RX4) (hR : 0 ≤ R.frames ∧ 0 ≤ R.locals) (hK : va_K D vwCl (tyw cI cJ cZ) s) (hD : ∀ σ, va_D (aC ad) (wC ad cI cJ cZ σ)) (σ : SS) (v1 : Int32) (hf : p_X4_startOf_0 σ v1 = some res) (H : Heap) (locs : List Loc) (ls : Array Slot) (hP : va_P D vwCl (wC ad cI cJ cZ σ) H) (hS : va_S (aC ad) s.heap H locs) (hl : lv_has ls 2 [(0, .ref (ad 2)), (1, .int v1)]) : W p l e R s m args below meth c H locs 0 0 (MQ below (va_Qi (fun (r : Int32) (u : SS) => r = res ∧ u = σ) (fun u t => va_P D vwCl (wC ad cI cJ cZ u) t.heap) (aC ad)) args s 0 0 (aC ad)) (F0 m 0 ls []) := by
  obtain ⟨hx, hb, hr, hml, hown, hts, hlk⟩ := id hm
  unfold p_X4_startOf_0 at hf
  refine lv_aload_n hx hb dX4_startOf_0 rfl (lv_at hl 0 rfl) ?_
  refine va_get (D := D) (ci := 3) (v := .ref (ad 14)) (C := RX4) (T := TX4) (N := 11) hx hb hts in_X4_startOf_X4 hown hK hP 2 (wC_2 _ _ _ _ _) rfl 4 (by decide) (hts (.fieldLink RX4 21 "CallGraphs$Members" "starts" "[I") (List.mem_of_getElem? (i := 1) rfl)) (fun _ h9 => h9) (fC_2_4 _ _) dX4_startOf_1 ?_
  refine lv_iload_n hx hb dX4_startOf_4 rfl (lv_at hl 1 rfl) ?_
  obtain ⟨h_5, hf⟩ := oi_e hf
  refine va_iald hx hb hK hP 14 0 (wC_14 _ _ _ _ _) rfl h_5 dX4_startOf_5 ?_
  exact rt_i (wd := wC ad cI cJ cZ) hx hb hr hlk ⟨Option.some.inj hf, rfl⟩ hP hS dX4_startOf_6
theorem hd_X4_startOf : yX4_startOf.cls = RX4 ∧ yX4_startOf.cls ≠ "java/lang/invoke/MethodHandle" ∧ yX4_startOf.cls ≠ "java/lang/invoke/VarHandle" ∧ (parseMethodDescriptor yX4_startOf.desc).map (fun d => d.parameters.length) = some 1 := by decide +kernel
set_option maxHeartbeats 4000000 in
set_option maxRecDepth 100000 in
theorem c_X4_startOf (l : Launch) (D : va_G) (ad : Nat → Nat) (cI cJ cZ : ClassId) (σ : SS) (v1 : Int32) {res : Int32} (hf : p_X4_startOf_0 σ v1 = some res) : Met l yX4_startOf wsX4_startOf ({ frames := 0, cells := 0, slots := 0, locals := 0 } : Room) (PW D (tyw cI cJ cZ) (wC ad cI cJ cZ σ) [.ref (ad 2), .int v1]) (va_Qi (fun (r : Int32) (u : SS) => r = res ∧ u = σ) (fun u t => va_P D vwCl (wC ad cI cJ cZ u) t.heap) (aC ad)) 0 0 (aC ad) := by
  refine Met.ofW (cc := cX4_startOf) (maxL := 2) (ret := (some .int)) (by decide) rfl ?_
  intro p e s m args below meth c s₁ B hml hv
  obtain ⟨rfl, hP, hK, hD0⟩ := hv
  have hD : ∀ σ, va_D (aC ad) (wC ad cI cJ cZ σ) := fun σ => wd_D hD0 (wC_map _ _ _ _ _) (wC_map _ _ _ _ _)
  have hm : mx p s m _ meth c cX4_startOf 2 (some .int) wsX4_startOf RX4 := ⟨B.exec, B.bytes, B.returns, hml, findClass_of_methodNamed B.named, atoms_spec (ws := wsX4_startOf) B.pre, B.notSynchronized⟩
  have hl := lv_entry ([.ref (ad 2), .int v1]) (n := 2) (Nat.le_of_ble_eq_true rfl)
  rw [lg_entry_eq]
  generalize (lg_sl ([.ref (ad 2), .int v1]) ++ List.replicate (2 - (lg_sl ([.ref (ad 2), .int v1])).length) Slot.unset).toArray = ls at hl ⊢
  exact w_X4_startOf_0 hm ⟨Nat.le_refl _, Nat.le_refl _⟩ hK hD σ v1 hf _ _ _ hP va_S.rf hl
/-! CallGraphs$Members.typeOf(I)I -/
theorem in_X4_typeOf_X4 : ∀ w ∈ u_ws RX4 TX4 11, w ∈ wsX4_typeOf := fun w h => List.mem_cons_of_mem _ (List.mem_append_right _ h)
def p_X4_typeOf_0 (σ : SS) (v1 : Int32) : Option (Int32) := oi v1 48 (some (σ.1 11 v1.toNatClampNeg))
set_option maxHeartbeats 4000000 in
set_option maxRecDepth 100000 in
theorem w_X4_typeOf_0 {p : Program} {l : Launch} {e : Env} {R : Room} {s : State} {m : MethodId} {args : Array Value} {below : List Frame} {meth : Method} {c : Code} {D : va_G} {ad : Nat → Nat} {cI cJ cZ : ClassId} {res : Int32} (hm : mx p s m args meth c cX4_typeOf 2 (some .int) wsX4_typeOf RX4) (hR : 0 ≤ R.frames ∧ 0 ≤ R.locals) (hK : va_K D vwCl (tyw cI cJ cZ) s) (hD : ∀ σ, va_D (aC ad) (wC ad cI cJ cZ σ)) (σ : SS) (v1 : Int32) (hf : p_X4_typeOf_0 σ v1 = some res) (H : Heap) (locs : List Loc) (ls : Array Slot) (hP : va_P D vwCl (wC ad cI cJ cZ σ) H) (hS : va_S (aC ad) s.heap H locs) (hl : lv_has ls 2 [(0, .ref (ad 2)), (1, .int v1)]) : W p l e R s m args below meth c H locs 0 0 (MQ below (va_Qi (fun (r : Int32) (u : SS) => r = res ∧ u = σ) (fun u t => va_P D vwCl (wC ad cI cJ cZ u) t.heap) (aC ad)) args s 0 0 (aC ad)) (F0 m 0 ls []) := by
  obtain ⟨hx, hb, hr, hml, hown, hts, hlk⟩ := id hm
  unfold p_X4_typeOf_0 at hf
  refine lv_aload_n hx hb dX4_typeOf_0 rfl (lv_at hl 0 rfl) ?_
  refine va_get (D := D) (ci := 3) (v := .ref (ad 11)) (C := RX4) (T := TX4) (N := 11) hx hb hts in_X4_typeOf_X4 hown hK hP 2 (wC_2 _ _ _ _ _) rfl 1 (by decide) (hts (.fieldLink RX4 9 "CallGraphs$Members" "owners" "[I") (List.mem_of_getElem? (i := 1) rfl)) (fun _ h9 => h9) (fC_2_1 _ _) dX4_typeOf_1 ?_
  refine lv_iload_n hx hb dX4_typeOf_4 rfl (lv_at hl 1 rfl) ?_
  obtain ⟨h_5, hf⟩ := oi_e hf
  refine va_iald hx hb hK hP 11 0 (wC_11 _ _ _ _ _) rfl h_5 dX4_typeOf_5 ?_
  exact rt_i (wd := wC ad cI cJ cZ) hx hb hr hlk ⟨Option.some.inj hf, rfl⟩ hP hS dX4_typeOf_6
theorem hd_X4_typeOf : yX4_typeOf.cls = RX4 ∧ yX4_typeOf.cls ≠ "java/lang/invoke/MethodHandle" ∧ yX4_typeOf.cls ≠ "java/lang/invoke/VarHandle" ∧ (parseMethodDescriptor yX4_typeOf.desc).map (fun d => d.parameters.length) = some 1 := by decide +kernel
set_option maxHeartbeats 4000000 in
set_option maxRecDepth 100000 in
theorem c_X4_typeOf (l : Launch) (D : va_G) (ad : Nat → Nat) (cI cJ cZ : ClassId) (σ : SS) (v1 : Int32) {res : Int32} (hf : p_X4_typeOf_0 σ v1 = some res) : Met l yX4_typeOf wsX4_typeOf ({ frames := 0, cells := 0, slots := 0, locals := 0 } : Room) (PW D (tyw cI cJ cZ) (wC ad cI cJ cZ σ) [.ref (ad 2), .int v1]) (va_Qi (fun (r : Int32) (u : SS) => r = res ∧ u = σ) (fun u t => va_P D vwCl (wC ad cI cJ cZ u) t.heap) (aC ad)) 0 0 (aC ad) := by
  refine Met.ofW (cc := cX4_typeOf) (maxL := 2) (ret := (some .int)) (by decide) rfl ?_
  intro p e s m args below meth c s₁ B hml hv
  obtain ⟨rfl, hP, hK, hD0⟩ := hv
  have hD : ∀ σ, va_D (aC ad) (wC ad cI cJ cZ σ) := fun σ => wd_D hD0 (wC_map _ _ _ _ _) (wC_map _ _ _ _ _)
  have hm : mx p s m _ meth c cX4_typeOf 2 (some .int) wsX4_typeOf RX4 := ⟨B.exec, B.bytes, B.returns, hml, findClass_of_methodNamed B.named, atoms_spec (ws := wsX4_typeOf) B.pre, B.notSynchronized⟩
  have hl := lv_entry ([.ref (ad 2), .int v1]) (n := 2) (Nat.le_of_ble_eq_true rfl)
  rw [lg_entry_eq]
  generalize (lg_sl ([.ref (ad 2), .int v1]) ++ List.replicate (2 - (lg_sl ([.ref (ad 2), .int v1])).length) Slot.unset).toArray = ls at hl ⊢
  exact w_X4_typeOf_0 hm ⟨Nat.le_refl _, Nat.le_refl _⟩ hK hD σ v1 hf _ _ _ hP va_S.rf hl
/-! CallGraphs$Members.handlesOf(I)J -/
theorem in_X4_handlesOf_X4 : ∀ w ∈ u_ws RX4 TX4 11, w ∈ wsX4_handlesOf := fun w h => List.mem_cons_of_mem _ (List.mem_append_right _ h)
def p_X4_handlesOf_0 (σ : SS) (v1 : Int32) : Option (Int64) := oi v1 10 (some (σ.2 15 v1.toNatClampNeg))
set_option maxHeartbeats 4000000 in
set_option maxRecDepth 100000 in
theorem w_X4_handlesOf_0 {p : Program} {l : Launch} {e : Env} {R : Room} {s : State} {m : MethodId} {args : Array Value} {below : List Frame} {meth : Method} {c : Code} {D : va_G} {ad : Nat → Nat} {cI cJ cZ : ClassId} {res : Int64} (hm : mx p s m args meth c cX4_handlesOf 2 (some .long) wsX4_handlesOf RX4) (hR : 0 ≤ R.frames ∧ 0 ≤ R.locals) (hK : va_K D vwCl (tyw cI cJ cZ) s) (hD : ∀ σ, va_D (aC ad) (wC ad cI cJ cZ σ)) (σ : SS) (v1 : Int32) (hf : p_X4_handlesOf_0 σ v1 = some res) (H : Heap) (locs : List Loc) (ls : Array Slot) (hP : va_P D vwCl (wC ad cI cJ cZ σ) H) (hS : va_S (aC ad) s.heap H locs) (hl : lv_has ls 2 [(0, .ref (ad 2)), (1, .int v1)]) : W p l e R s m args below meth c H locs 0 0 (MQ below (va_Ql (fun (r : Int64) (u : SS) => r = res ∧ u = σ) (fun u t => va_P D vwCl (wC ad cI cJ cZ u) t.heap) (aC ad)) args s 0 0 (aC ad)) (F0 m 0 ls []) := by
  obtain ⟨hx, hb, hr, hml, hown, hts, hlk⟩ := id hm
  unfold p_X4_handlesOf_0 at hf
  refine lv_aload_n hx hb dX4_handlesOf_0 rfl (lv_at hl 0 rfl) ?_
  refine va_get (D := D) (ci := 3) (v := .ref (ad 15)) (C := RX4) (T := TX4) (N := 11) hx hb hts in_X4_handlesOf_X4 hown hK hP 2 (wC_2 _ _ _ _ _) rfl 5 (by decide) (hts (.fieldLink RX4 24 "CallGraphs$Members" "handles" "[J") (List.mem_of_getElem? (i := 1) rfl)) (fun _ h9 => h9) (fC_2_5 _ _) dX4_handlesOf_1 ?_
  refine lv_iload_n hx hb dX4_handlesOf_4 rfl (lv_at hl 1 rfl) ?_
  obtain ⟨h_5, hf⟩ := oi_e hf
  refine va_lald hx hb hK hP 15 1 (wC_15 _ _ _ _ _) rfl h_5 dX4_handlesOf_5 ?_
  exact rt_l (wd := wC ad cI cJ cZ) hx hb hr hlk ⟨Option.some.inj hf, rfl⟩ hP hS dX4_handlesOf_6
theorem hd_X4_handlesOf : yX4_handlesOf.cls = RX4 ∧ yX4_handlesOf.cls ≠ "java/lang/invoke/MethodHandle" ∧ yX4_handlesOf.cls ≠ "java/lang/invoke/VarHandle" ∧ (parseMethodDescriptor yX4_handlesOf.desc).map (fun d => d.parameters.length) = some 1 := by decide +kernel
set_option maxHeartbeats 4000000 in
set_option maxRecDepth 100000 in
theorem c_X4_handlesOf (l : Launch) (D : va_G) (ad : Nat → Nat) (cI cJ cZ : ClassId) (σ : SS) (v1 : Int32) {res : Int64} (hf : p_X4_handlesOf_0 σ v1 = some res) : Met l yX4_handlesOf wsX4_handlesOf ({ frames := 0, cells := 0, slots := 0, locals := 0 } : Room) (PW D (tyw cI cJ cZ) (wC ad cI cJ cZ σ) [.ref (ad 2), .int v1]) (va_Ql (fun (r : Int64) (u : SS) => r = res ∧ u = σ) (fun u t => va_P D vwCl (wC ad cI cJ cZ u) t.heap) (aC ad)) 0 0 (aC ad) := by
  refine Met.ofW (cc := cX4_handlesOf) (maxL := 2) (ret := (some .long)) (by decide) rfl ?_
  intro p e s m args below meth c s₁ B hml hv
  obtain ⟨rfl, hP, hK, hD0⟩ := hv
  have hD : ∀ σ, va_D (aC ad) (wC ad cI cJ cZ σ) := fun σ => wd_D hD0 (wC_map _ _ _ _ _) (wC_map _ _ _ _ _)
  have hm : mx p s m _ meth c cX4_handlesOf 2 (some .long) wsX4_handlesOf RX4 := ⟨B.exec, B.bytes, B.returns, hml, findClass_of_methodNamed B.named, atoms_spec (ws := wsX4_handlesOf) B.pre, B.notSynchronized⟩
  have hl := lv_entry ([.ref (ad 2), .int v1]) (n := 2) (Nat.le_of_ble_eq_true rfl)
  rw [lg_entry_eq]
  generalize (lg_sl ([.ref (ad 2), .int v1]) ++ List.replicate (2 - (lg_sl ([.ref (ad 2), .int v1])).length) Slot.unset).toArray = ls at hl ⊢
  exact w_X4_handlesOf_0 hm ⟨Nat.le_refl _, Nat.le_refl _⟩ hK hD σ v1 hf _ _ _ hP va_S.rf hl
/-! CallGraphs$Members.isRoot(I)Z -/
theorem in_X4_isRoot_X4 : ∀ w ∈ u_ws RX4 TX4 11, w ∈ wsX4_isRoot := fun w h => List.mem_cons_of_mem _ (List.mem_append_right _ h)
def p_X4_isRoot_0 (σ : SS) (v1 : Int32) : Option (Int32) := oc (p_X0_has_0 (σ.2 2 9) v1) (fun r_5 => ob r_5 (some r_5))
set_option maxHeartbeats 4000000 in
set_option maxRecDepth 100000 in
theorem w_X4_isRoot_0 {p : Program} {l : Launch} {e : Env} {R : Room} {s : State} {m : MethodId} {args : Array Value} {below : List Frame} {meth : Method} {c : Code} {D : va_G} {ad : Nat → Nat} {cI cJ cZ : ClassId} {res : Int32} (hm : mx p s m args meth c cX4_isRoot 2 (some .boolean) wsX4_isRoot RX4) (hR : 1 ≤ R.frames ∧ 22 ≤ R.locals) (hK : va_K D vwCl (tyw cI cJ cZ) s) (hD : ∀ σ, va_D (aC ad) (wC ad cI cJ cZ σ)) (σ : SS) (v1 : Int32) (hf : p_X4_isRoot_0 σ v1 = some res) (H : Heap) (locs : List Loc) (ls : Array Slot) (hP : va_P D vwCl (wC ad cI cJ cZ σ) H) (hS : va_S (aC ad) s.heap H locs) (hl : lv_has ls 2 [(0, .ref (ad 2)), (1, .int v1)]) : W p l e R s m args below meth c H locs 0 0 (MQ below (va_Qi (fun (r : Int32) (u : SS) => r = res ∧ u = σ) (fun u t => va_P D vwCl (wC ad cI cJ cZ u) t.heap) (aC ad)) args s 0 0 (aC ad)) (F0 m 0 ls []) := by
  obtain ⟨hx, hb, hr, hml, hown, hts, hlk⟩ := id hm
  unfold p_X4_isRoot_0 at hf
  refine lv_aload_n hx hb dX4_isRoot_0 rfl (lv_at hl 0 rfl) ?_
  refine va_get (D := D) (ci := 3) (v := .long (σ.2 2 9)) (C := RX4) (T := TX4) (N := 11) hx hb hts in_X4_isRoot_X4 hown hK hP 2 (wC_2 _ _ _ _ _) rfl 9 (by decide) (hts (.fieldLink RX4 49 "CallGraphs$Members" "roots" "J") (List.mem_of_getElem? (i := 1) rfl)) (fun _ h9 => h9) (fC_2_9 _ _) dX4_isRoot_1 ?_
  refine lv_iload_n hx hb dX4_isRoot_4 rfl (lv_at hl 1 rfl) ?_
  obtain ⟨r_5, hg_5, hf⟩ := oc_e hf
  refine mS_i (D := D) (As := [.long (σ.2 2 9), .int v1]) (rest := []) ⟨hx, hb, hml, hown, hts⟩ hP hS (c_X0_has l (σ.2 2 9) v1 hg_5) (va_cwS 2 hts gX4_isRoot_X0_has rfl rfl rfl hd_X0_has ⟨Nat.le_trans (Nat.le_of_ble_eq_true rfl) hR.1, Nat.le_trans (Nat.le_of_ble_eq_true rfl) hR.2⟩) rfl hl.1 rfl (Nat.le_of_ble_eq_true rfl) dX4_isRoot_5 (fun H locs hP hS => ?_)
  obtain ⟨h_8, hf⟩ := ob_e hf
  exact rt_z (wd := wC ad cI cJ cZ) hx hb hr hlk h_8 ⟨Option.some.inj hf, rfl⟩ hP hS dX4_isRoot_8
theorem hd_X4_isRoot : yX4_isRoot.cls = RX4 ∧ yX4_isRoot.cls ≠ "java/lang/invoke/MethodHandle" ∧ yX4_isRoot.cls ≠ "java/lang/invoke/VarHandle" ∧ (parseMethodDescriptor yX4_isRoot.desc).map (fun d => d.parameters.length) = some 1 := by decide +kernel
set_option maxHeartbeats 4000000 in
set_option maxRecDepth 100000 in
theorem c_X4_isRoot (l : Launch) (D : va_G) (ad : Nat → Nat) (cI cJ cZ : ClassId) (σ : SS) (v1 : Int32) {res : Int32} (hf : p_X4_isRoot_0 σ v1 = some res) : Met l yX4_isRoot wsX4_isRoot ({ frames := 1, cells := 0, slots := 0, locals := 22 } : Room) (PW D (tyw cI cJ cZ) (wC ad cI cJ cZ σ) [.ref (ad 2), .int v1]) (va_Qi (fun (r : Int32) (u : SS) => r = res ∧ u = σ) (fun u t => va_P D vwCl (wC ad cI cJ cZ u) t.heap) (aC ad)) 0 0 (aC ad) := by
  refine Met.ofW (cc := cX4_isRoot) (maxL := 2) (ret := (some .boolean)) (by decide) rfl ?_
  intro p e s m args below meth c s₁ B hml hv
  obtain ⟨rfl, hP, hK, hD0⟩ := hv
  have hD : ∀ σ, va_D (aC ad) (wC ad cI cJ cZ σ) := fun σ => wd_D hD0 (wC_map _ _ _ _ _) (wC_map _ _ _ _ _)
  have hm : mx p s m _ meth c cX4_isRoot 2 (some .boolean) wsX4_isRoot RX4 := ⟨B.exec, B.bytes, B.returns, hml, findClass_of_methodNamed B.named, atoms_spec (ws := wsX4_isRoot) B.pre, B.notSynchronized⟩
  have hl := lv_entry ([.ref (ad 2), .int v1]) (n := 2) (Nat.le_of_ble_eq_true rfl)
  rw [lg_entry_eq]
  generalize (lg_sl ([.ref (ad 2), .int v1]) ++ List.replicate (2 - (lg_sl ([.ref (ad 2), .int v1])).length) Slot.unset).toArray = ls at hl ⊢
  exact w_X4_isRoot_0 hm ⟨Nat.le_refl _, Nat.le_refl _⟩ hK hD σ v1 hf _ _ _ hP va_S.rf hl
/-! CallGraphs$Members.size()I -/
theorem in_X4_size_X4 : ∀ w ∈ u_ws RX4 TX4 11, w ∈ wsX4_size := fun w h => List.mem_cons_of_mem _ (List.mem_append_right _ h)
def p_X4_size_0 (σ : SS) : Option (Int32) := some (σ.1 2 10)
set_option maxHeartbeats 4000000 in
set_option maxRecDepth 100000 in
theorem w_X4_size_0 {p : Program} {l : Launch} {e : Env} {R : Room} {s : State} {m : MethodId} {args : Array Value} {below : List Frame} {meth : Method} {c : Code} {D : va_G} {ad : Nat → Nat} {cI cJ cZ : ClassId} {res : Int32} (hm : mx p s m args meth c cX4_size 1 (some .int) wsX4_size RX4) (hR : 0 ≤ R.frames ∧ 0 ≤ R.locals) (hK : va_K D vwCl (tyw cI cJ cZ) s) (hD : ∀ σ, va_D (aC ad) (wC ad cI cJ cZ σ)) (σ : SS) (hf : p_X4_size_0 σ = some res) (H : Heap) (locs : List Loc) (ls : Array Slot) (hP : va_P D vwCl (wC ad cI cJ cZ σ) H) (hS : va_S (aC ad) s.heap H locs) (hl : lv_has ls 1 [(0, .ref (ad 2))]) : W p l e R s m args below meth c H locs 0 0 (MQ below (va_Qi (fun (r : Int32) (u : SS) => r = res ∧ u = σ) (fun u t => va_P D vwCl (wC ad cI cJ cZ u) t.heap) (aC ad)) args s 0 0 (aC ad)) (F0 m 0 ls []) := by
  obtain ⟨hx, hb, hr, hml, hown, hts, hlk⟩ := id hm
  unfold p_X4_size_0 at hf
  refine lv_aload_n hx hb dX4_size_0 rfl (lv_at hl 0 rfl) ?_
  refine va_get (D := D) (ci := 3) (v := .int (σ.1 2 10)) (C := RX4) (T := TX4) (N := 11) hx hb hts in_X4_size_X4 hown hK hP 2 (wC_2 _ _ _ _ _) rfl 10 (by decide) (hts (.fieldLink RX4 41 "CallGraphs$Members" "count" "I") (List.mem_of_getElem? (i := 1) rfl)) (fun _ h9 => h9) (fC_2_10 _ _) dX4_size_1 ?_
  exact rt_i (wd := wC ad cI cJ cZ) hx hb hr hlk ⟨Option.some.inj hf, rfl⟩ hP hS dX4_size_4
theorem hd_X4_size : yX4_size.cls = RX4 ∧ yX4_size.cls ≠ "java/lang/invoke/MethodHandle" ∧ yX4_size.cls ≠ "java/lang/invoke/VarHandle" ∧ (parseMethodDescriptor yX4_size.desc).map (fun d => d.parameters.length) = some 0 := by decide +kernel
set_option maxHeartbeats 4000000 in
set_option maxRecDepth 100000 in
theorem c_X4_size (l : Launch) (D : va_G) (ad : Nat → Nat) (cI cJ cZ : ClassId) (σ : SS) {res : Int32} (hf : p_X4_size_0 σ = some res) : Met l yX4_size wsX4_size ({ frames := 0, cells := 0, slots := 0, locals := 0 } : Room) (PW D (tyw cI cJ cZ) (wC ad cI cJ cZ σ) [.ref (ad 2)]) (va_Qi (fun (r : Int32) (u : SS) => r = res ∧ u = σ) (fun u t => va_P D vwCl (wC ad cI cJ cZ u) t.heap) (aC ad)) 0 0 (aC ad) := by
  refine Met.ofW (cc := cX4_size) (maxL := 1) (ret := (some .int)) (by decide) rfl ?_
  intro p e s m args below meth c s₁ B hml hv
  obtain ⟨rfl, hP, hK, hD0⟩ := hv
  have hD : ∀ σ, va_D (aC ad) (wC ad cI cJ cZ σ) := fun σ => wd_D hD0 (wC_map _ _ _ _ _) (wC_map _ _ _ _ _)
  have hm : mx p s m _ meth c cX4_size 1 (some .int) wsX4_size RX4 := ⟨B.exec, B.bytes, B.returns, hml, findClass_of_methodNamed B.named, atoms_spec (ws := wsX4_size) B.pre, B.notSynchronized⟩
  have hl := lv_entry ([.ref (ad 2)]) (n := 1) (Nat.le_of_ble_eq_true rfl)
  rw [lg_entry_eq]
  generalize (lg_sl ([.ref (ad 2)]) ++ List.replicate (1 - (lg_sl ([.ref (ad 2)])).length) Slot.unset).toArray = ls at hl ⊢
  exact w_X4_size_0 hm ⟨Nat.le_refl _, Nat.le_refl _⟩ hK hD σ hf _ _ _ hP va_S.rf hl
/-! CallGraphs$Members.roots()J -/
theorem in_X4_roots_X4 : ∀ w ∈ u_ws RX4 TX4 11, w ∈ wsX4_roots := fun w h => List.mem_cons_of_mem _ (List.mem_append_right _ h)
def p_X4_roots_0 (σ : SS) : Option (Int64) := some (σ.2 2 9)
set_option maxHeartbeats 4000000 in
set_option maxRecDepth 100000 in
theorem w_X4_roots_0 {p : Program} {l : Launch} {e : Env} {R : Room} {s : State} {m : MethodId} {args : Array Value} {below : List Frame} {meth : Method} {c : Code} {D : va_G} {ad : Nat → Nat} {cI cJ cZ : ClassId} {res : Int64} (hm : mx p s m args meth c cX4_roots 1 (some .long) wsX4_roots RX4) (hR : 0 ≤ R.frames ∧ 0 ≤ R.locals) (hK : va_K D vwCl (tyw cI cJ cZ) s) (hD : ∀ σ, va_D (aC ad) (wC ad cI cJ cZ σ)) (σ : SS) (hf : p_X4_roots_0 σ = some res) (H : Heap) (locs : List Loc) (ls : Array Slot) (hP : va_P D vwCl (wC ad cI cJ cZ σ) H) (hS : va_S (aC ad) s.heap H locs) (hl : lv_has ls 1 [(0, .ref (ad 2))]) : W p l e R s m args below meth c H locs 0 0 (MQ below (va_Ql (fun (r : Int64) (u : SS) => r = res ∧ u = σ) (fun u t => va_P D vwCl (wC ad cI cJ cZ u) t.heap) (aC ad)) args s 0 0 (aC ad)) (F0 m 0 ls []) := by
  obtain ⟨hx, hb, hr, hml, hown, hts, hlk⟩ := id hm
  unfold p_X4_roots_0 at hf
  refine lv_aload_n hx hb dX4_roots_0 rfl (lv_at hl 0 rfl) ?_
  refine va_get (D := D) (ci := 3) (v := .long (σ.2 2 9)) (C := RX4) (T := TX4) (N := 11) hx hb hts in_X4_roots_X4 hown hK hP 2 (wC_2 _ _ _ _ _) rfl 9 (by decide) (hts (.fieldLink RX4 49 "CallGraphs$Members" "roots" "J") (List.mem_of_getElem? (i := 1) rfl)) (fun _ h9 => h9) (fC_2_9 _ _) dX4_roots_1 ?_
  exact rt_l (wd := wC ad cI cJ cZ) hx hb hr hlk ⟨Option.some.inj hf, rfl⟩ hP hS dX4_roots_4
theorem hd_X4_roots : yX4_roots.cls = RX4 ∧ yX4_roots.cls ≠ "java/lang/invoke/MethodHandle" ∧ yX4_roots.cls ≠ "java/lang/invoke/VarHandle" ∧ (parseMethodDescriptor yX4_roots.desc).map (fun d => d.parameters.length) = some 0 := by decide +kernel
set_option maxHeartbeats 4000000 in
set_option maxRecDepth 100000 in
theorem c_X4_roots (l : Launch) (D : va_G) (ad : Nat → Nat) (cI cJ cZ : ClassId) (σ : SS) {res : Int64} (hf : p_X4_roots_0 σ = some res) : Met l yX4_roots wsX4_roots ({ frames := 0, cells := 0, slots := 0, locals := 0 } : Room) (PW D (tyw cI cJ cZ) (wC ad cI cJ cZ σ) [.ref (ad 2)]) (va_Ql (fun (r : Int64) (u : SS) => r = res ∧ u = σ) (fun u t => va_P D vwCl (wC ad cI cJ cZ u) t.heap) (aC ad)) 0 0 (aC ad) := by
  refine Met.ofW (cc := cX4_roots) (maxL := 1) (ret := (some .long)) (by decide) rfl ?_
  intro p e s m args below meth c s₁ B hml hv
  obtain ⟨rfl, hP, hK, hD0⟩ := hv
  have hD : ∀ σ, va_D (aC ad) (wC ad cI cJ cZ σ) := fun σ => wd_D hD0 (wC_map _ _ _ _ _) (wC_map _ _ _ _ _)
  have hm : mx p s m _ meth c cX4_roots 1 (some .long) wsX4_roots RX4 := ⟨B.exec, B.bytes, B.returns, hml, findClass_of_methodNamed B.named, atoms_spec (ws := wsX4_roots) B.pre, B.notSynchronized⟩
  have hl := lv_entry ([.ref (ad 2)]) (n := 1) (Nat.le_of_ble_eq_true rfl)
  rw [lg_entry_eq]
  generalize (lg_sl ([.ref (ad 2)]) ++ List.replicate (1 - (lg_sl ([.ref (ad 2)])).length) Slot.unset).toArray = ls at hl ⊢
  exact w_X4_roots_0 hm ⟨Nat.le_refl _, Nat.le_refl _⟩ hK hD σ hf _ _ _ hP va_S.rf hl
/-! CallGraphs$Members.knows(I)Z -/
theorem in_X4_knows_X4 : ∀ w ∈ u_ws RX4 TX4 11, w ∈ wsX4_knows := fun w h => List.mem_cons_of_mem _ (List.mem_append_right _ h)
def p_X4_knows_17 (σ : SS) (t0 : Int32) : Option (Int32) := ob t0 (some t0)
set_option maxHeartbeats 4000000 in
set_option maxRecDepth 100000 in
theorem w_X4_knows_17 {p : Program} {l : Launch} {e : Env} {R : Room} {s : State} {m : MethodId} {args : Array Value} {below : List Frame} {meth : Method} {c : Code} {D : va_G} {ad : Nat → Nat} {cI cJ cZ : ClassId} {res : Int32} (hm : mx p s m args meth c cX4_knows 2 (some .boolean) wsX4_knows RX4) (hR : 0 ≤ R.frames ∧ 0 ≤ R.locals) (hK : va_K D vwCl (tyw cI cJ cZ) s) (hD : ∀ σ, va_D (aC ad) (wC ad cI cJ cZ σ)) (σ : SS) (t0 : Int32) (hf : p_X4_knows_17 σ t0 = some res) (H : Heap) (locs : List Loc) (ls : Array Slot) (hP : va_P D vwCl (wC ad cI cJ cZ σ) H) (hS : va_S (aC ad) s.heap H locs) (hl : lv_has ls 2 []) : W p l e R s m args below meth c H locs 0 0 (MQ below (va_Qi (fun (r : Int32) (u : SS) => r = res ∧ u = σ) (fun u t => va_P D vwCl (wC ad cI cJ cZ u) t.heap) (aC ad)) args s 0 0 (aC ad)) (F0 m 17 ls [.int t0]) := by
  obtain ⟨hx, hb, hr, hml, hown, hts, hlk⟩ := id hm
  unfold p_X4_knows_17 at hf
  obtain ⟨h_17, hf⟩ := ob_e hf
  exact rt_z (wd := wC ad cI cJ cZ) hx hb hr hlk h_17 ⟨Option.some.inj hf, rfl⟩ hP hS dX4_knows_17
def p_X4_knows_16 (σ : SS) : Option (Int32) := p_X4_knows_17 σ 0
set_option maxHeartbeats 4000000 in
set_option maxRecDepth 100000 in
theorem w_X4_knows_16 {p : Program} {l : Launch} {e : Env} {R : Room} {s : State} {m : MethodId} {args : Array Value} {below : List Frame} {meth : Method} {c : Code} {D : va_G} {ad : Nat → Nat} {cI cJ cZ : ClassId} {res : Int32} (hm : mx p s m args meth c cX4_knows 2 (some .boolean) wsX4_knows RX4) (hR : 0 ≤ R.frames ∧ 0 ≤ R.locals) (hK : va_K D vwCl (tyw cI cJ cZ) s) (hD : ∀ σ, va_D (aC ad) (wC ad cI cJ cZ σ)) (σ : SS) (hf : p_X4_knows_16 σ = some res) (H : Heap) (locs : List Loc) (ls : Array Slot) (hP : va_P D vwCl (wC ad cI cJ cZ σ) H) (hS : va_S (aC ad) s.heap H locs) (hl : lv_has ls 2 []) : W p l e R s m args below meth c H locs 0 0 (MQ below (va_Qi (fun (r : Int32) (u : SS) => r = res ∧ u = σ) (fun u t => va_P D vwCl (wC ad cI cJ cZ u) t.heap) (aC ad)) args s 0 0 (aC ad)) (F0 m 16 ls []) := by
  obtain ⟨hx, hb, hr, hml, hown, hts, hlk⟩ := id hm
  unfold p_X4_knows_16 at hf
  refine lv_iconst (v := 0) hx hb dX4_knows_16 (by decide) ?_
  exact w_X4_knows_17 hm hR hK hD σ 0 hf _ _ _ hP hS (lv_sub hl [] rfl)
def p_X4_knows_0 (σ : SS) (v1 : Int32) : Option (Int32) := if v1 < 0 then p_X4_knows_16 σ else if (σ.1 2 10) ≤ v1 then p_X4_knows_16 σ else p_X4_knows_17 σ 1
set_option maxHeartbeats 4000000 in
set_option maxRecDepth 100000 in
theorem w_X4_knows_0 {p : Program} {l : Launch} {e : Env} {R : Room} {s : State} {m : MethodId} {args : Array Value} {below : List Frame} {meth : Method} {c : Code} {D : va_G} {ad : Nat → Nat} {cI cJ cZ : ClassId} {res : Int32} (hm : mx p s m args meth c cX4_knows 2 (some .boolean) wsX4_knows RX4) (hR : 0 ≤ R.frames ∧ 0 ≤ R.locals) (hK : va_K D vwCl (tyw cI cJ cZ) s) (hD : ∀ σ, va_D (aC ad) (wC ad cI cJ cZ σ)) (σ : SS) (v1 : Int32) (hf : p_X4_knows_0 σ v1 = some res) (H : Heap) (locs : List Loc) (ls : Array Slot) (hP : va_P D vwCl (wC ad cI cJ cZ σ) H) (hS : va_S (aC ad) s.heap H locs) (hl : lv_has ls 2 [(0, .ref (ad 2)), (1, .int v1)]) : W p l e R s m args below meth c H locs 0 0 (MQ below (va_Qi (fun (r : Int32) (u : SS) => r = res ∧ u = σ) (fun u t => va_P D vwCl (wC ad cI cJ cZ u) t.heap) (aC ad)) args s 0 0 (aC ad)) (F0 m 0 ls []) := by
  obtain ⟨hx, hb, hr, hml, hown, hts, hlk⟩ := id hm
  unfold p_X4_knows_0 at hf
  refine lv_iload_n hx hb dX4_knows_0 rfl (lv_at hl 1 rfl) ?_
  refine lv_if_lt (tgt := 16) hx hb dX4_knows_1 (by decide) (fun c_1 => ?_) (fun c_1 => ?_)
  · rw [if_pos c_1] at hf
    exact w_X4_knows_16 hm hR hK hD σ hf _ _ _ hP hS (lv_sub hl [] rfl)
  · rw [if_neg c_1] at hf
    refine lv_iload_n hx hb dX4_knows_4 rfl (lv_at hl 1 rfl) ?_
    refine lv_aload_n hx hb dX4_knows_5 rfl (lv_at hl 0 rfl) ?_
    refine va_get (D := D) (ci := 3) (v := .int (σ.1 2 10)) (C := RX4) (T := TX4) (N := 11) hx hb hts in_X4_knows_X4 hown hK hP 2 (wC_2 _ _ _ _ _) rfl 10 (by decide) (hts (.fieldLink RX4 41 "CallGraphs$Members" "count" "I") (List.mem_of_getElem? (i := 1) rfl)) (fun _ h9 => h9) (fC_2_10 _ _) dX4_knows_6 ?_
    refine lv_icmp_ge (tgt := 16) hx hb dX4_knows_9 (by decide) (fun c_9 => ?_) (fun c_9 => ?_)
    · rw [if_pos c_9] at hf
      exact w_X4_knows_16 hm hR hK hD σ hf _ _ _ hP hS (lv_sub hl [] rfl)
    · rw [if_neg c_9] at hf
      refine lv_iconst (v := 1) hx hb dX4_knows_12 (by decide) ?_
      refine lv_goto (tgt := 17) hx hb dX4_knows_13 (by decide) ?_
      exact w_X4_knows_17 hm hR hK hD σ 1 hf _ _ _ hP hS (lv_sub hl [] rfl)
theorem hd_X4_knows : yX4_knows.cls = RX4 ∧ yX4_knows.cls ≠ "java/lang/invoke/MethodHandle" ∧ yX4_knows.cls ≠ "java/lang/invoke/VarHandle" ∧ (parseMethodDescriptor yX4_knows.desc).map (fun d => d.parameters.length) = some 1 := by decide +kernel
set_option maxHeartbeats 4000000 in
set_option maxRecDepth 100000 in
theorem c_X4_knows (l : Launch) (D : va_G) (ad : Nat → Nat) (cI cJ cZ : ClassId) (σ : SS) (v1 : Int32) {res : Int32} (hf : p_X4_knows_0 σ v1 = some res) : Met l yX4_knows wsX4_knows ({ frames := 0, cells := 0, slots := 0, locals := 0 } : Room) (PW D (tyw cI cJ cZ) (wC ad cI cJ cZ σ) [.ref (ad 2), .int v1]) (va_Qi (fun (r : Int32) (u : SS) => r = res ∧ u = σ) (fun u t => va_P D vwCl (wC ad cI cJ cZ u) t.heap) (aC ad)) 0 0 (aC ad) := by
  refine Met.ofW (cc := cX4_knows) (maxL := 2) (ret := (some .boolean)) (by decide) rfl ?_
  intro p e s m args below meth c s₁ B hml hv
  obtain ⟨rfl, hP, hK, hD0⟩ := hv
  have hD : ∀ σ, va_D (aC ad) (wC ad cI cJ cZ σ) := fun σ => wd_D hD0 (wC_map _ _ _ _ _) (wC_map _ _ _ _ _)
  have hm : mx p s m _ meth c cX4_knows 2 (some .boolean) wsX4_knows RX4 := ⟨B.exec, B.bytes, B.returns, hml, findClass_of_methodNamed B.named, atoms_spec (ws := wsX4_knows) B.pre, B.notSynchronized⟩
  have hl := lv_entry ([.ref (ad 2), .int v1]) (n := 2) (Nat.le_of_ble_eq_true rfl)
  rw [lg_entry_eq]
  generalize (lg_sl ([.ref (ad 2), .int v1]) ++ List.replicate (2 - (lg_sl ([.ref (ad 2), .int v1])).length) Slot.unset).toArray = ls at hl ⊢
  exact w_X4_knows_0 hm ⟨Nat.le_refl _, Nat.le_refl _⟩ hK hD σ v1 hf _ _ _ hP va_S.rf hl
/-! CallGraphs$Members.isHandle(I)Z -/
theorem in_X4_isHandle_X4 : ∀ w ∈ u_ws RX4 TX4 11, w ∈ wsX4_isHandle := fun w h => List.mem_cons_of_mem _ (List.mem_append_right _ h)
def p_X4_isHandle_25 (σ : SS) (t0 : Int32) : Option (Int32) := ob t0 (some t0)
set_option maxHeartbeats 4000000 in
set_option maxRecDepth 100000 in
theorem w_X4_isHandle_25 {p : Program} {l : Launch} {e : Env} {R : Room} {s : State} {m : MethodId} {args : Array Value} {below : List Frame} {meth : Method} {c : Code} {D : va_G} {ad : Nat → Nat} {cI cJ cZ : ClassId} {res : Int32} (hm : mx p s m args meth c cX4_isHandle 2 (some .boolean) wsX4_isHandle RX4) (hR : 0 ≤ R.frames ∧ 0 ≤ R.locals) (hK : va_K D vwCl (tyw cI cJ cZ) s) (hD : ∀ σ, va_D (aC ad) (wC ad cI cJ cZ σ)) (σ : SS) (t0 : Int32) (hf : p_X4_isHandle_25 σ t0 = some res) (H : Heap) (locs : List Loc) (ls : Array Slot) (hP : va_P D vwCl (wC ad cI cJ cZ σ) H) (hS : va_S (aC ad) s.heap H locs) (hl : lv_has ls 2 []) : W p l e R s m args below meth c H locs 0 0 (MQ below (va_Qi (fun (r : Int32) (u : SS) => r = res ∧ u = σ) (fun u t => va_P D vwCl (wC ad cI cJ cZ u) t.heap) (aC ad)) args s 0 0 (aC ad)) (F0 m 25 ls [.int t0]) := by
  obtain ⟨hx, hb, hr, hml, hown, hts, hlk⟩ := id hm
  unfold p_X4_isHandle_25 at hf
  obtain ⟨h_25, hf⟩ := ob_e hf
  exact rt_z (wd := wC ad cI cJ cZ) hx hb hr hlk h_25 ⟨Option.some.inj hf, rfl⟩ hP hS dX4_isHandle_25
def p_X4_isHandle_24 (σ : SS) : Option (Int32) := p_X4_isHandle_25 σ 0
set_option maxHeartbeats 4000000 in
set_option maxRecDepth 100000 in
theorem w_X4_isHandle_24 {p : Program} {l : Launch} {e : Env} {R : Room} {s : State} {m : MethodId} {args : Array Value} {below : List Frame} {meth : Method} {c : Code} {D : va_G} {ad : Nat → Nat} {cI cJ cZ : ClassId} {res : Int32} (hm : mx p s m args meth c cX4_isHandle 2 (some .boolean) wsX4_isHandle RX4) (hR : 0 ≤ R.frames ∧ 0 ≤ R.locals) (hK : va_K D vwCl (tyw cI cJ cZ) s) (hD : ∀ σ, va_D (aC ad) (wC ad cI cJ cZ σ)) (σ : SS) (hf : p_X4_isHandle_24 σ = some res) (H : Heap) (locs : List Loc) (ls : Array Slot) (hP : va_P D vwCl (wC ad cI cJ cZ σ) H) (hS : va_S (aC ad) s.heap H locs) (hl : lv_has ls 2 []) : W p l e R s m args below meth c H locs 0 0 (MQ below (va_Qi (fun (r : Int32) (u : SS) => r = res ∧ u = σ) (fun u t => va_P D vwCl (wC ad cI cJ cZ u) t.heap) (aC ad)) args s 0 0 (aC ad)) (F0 m 24 ls []) := by
  obtain ⟨hx, hb, hr, hml, hown, hts, hlk⟩ := id hm
  unfold p_X4_isHandle_24 at hf
  refine lv_iconst (v := 0) hx hb dX4_isHandle_24 (by decide) ?_
  exact w_X4_isHandle_25 hm hR hK hD σ 0 hf _ _ _ hP hS (lv_sub hl [] rfl)
def p_X4_isHandle_0 (σ : SS) (v1 : Int32) : Option (Int32) := oi v1 48 (if (σ.1 12 v1.toNatClampNeg) = 1 then p_X4_isHandle_24 σ else oi v1 48 (if (σ.1 12 v1.toNatClampNeg) = 4 then p_X4_isHandle_24 σ else p_X4_isHandle_25 σ 1))
set_option maxHeartbeats 4000000 in
set_option maxRecDepth 100000 in
theorem w_X4_isHandle_0 {p : Program} {l : Launch} {e : Env} {R : Room} {s : State} {m : MethodId} {args : Array Value} {below : List Frame} {meth : Method} {c : Code} {D : va_G} {ad : Nat → Nat} {cI cJ cZ : ClassId} {res : Int32} (hm : mx p s m args meth c cX4_isHandle 2 (some .boolean) wsX4_isHandle RX4) (hR : 0 ≤ R.frames ∧ 0 ≤ R.locals) (hK : va_K D vwCl (tyw cI cJ cZ) s) (hD : ∀ σ, va_D (aC ad) (wC ad cI cJ cZ σ)) (σ : SS) (v1 : Int32) (hf : p_X4_isHandle_0 σ v1 = some res) (H : Heap) (locs : List Loc) (ls : Array Slot) (hP : va_P D vwCl (wC ad cI cJ cZ σ) H) (hS : va_S (aC ad) s.heap H locs) (hl : lv_has ls 2 [(0, .ref (ad 2)), (1, .int v1)]) : W p l e R s m args below meth c H locs 0 0 (MQ below (va_Qi (fun (r : Int32) (u : SS) => r = res ∧ u = σ) (fun u t => va_P D vwCl (wC ad cI cJ cZ u) t.heap) (aC ad)) args s 0 0 (aC ad)) (F0 m 0 ls []) := by
  obtain ⟨hx, hb, hr, hml, hown, hts, hlk⟩ := id hm
  unfold p_X4_isHandle_0 at hf
  refine lv_aload_n hx hb dX4_isHandle_0 rfl (lv_at hl 0 rfl) ?_
  refine va_get (D := D) (ci := 3) (v := .ref (ad 12)) (C := RX4) (T := TX4) (N := 11) hx hb hts in_X4_isHandle_X4 hown hK hP 2 (wC_2 _ _ _ _ _) rfl 2 (by decide) (hts (.fieldLink RX4 15 "CallGraphs$Members" "sorts" "[I") (List.mem_of_getElem? (i := 1) rfl)) (fun _ h9 => h9) (fC_2_2 _ _) dX4_isHandle_1 ?_
  refine lv_iload_n hx hb dX4_isHandle_4 rfl (lv_at hl 1 rfl) ?_
  obtain ⟨h_5, hf⟩ := oi_e hf
  refine va_iald hx hb hK hP 12 0 (wC_12 _ _ _ _ _) rfl h_5 dX4_isHandle_5 ?_
  refine lv_iconst (v := 1) hx hb dX4_isHandle_6 (by decide) ?_
  refine lv_icmp_eq (tgt := 24) hx hb dX4_isHandle_7 (by decide) (fun c_7 => ?_) (fun c_7 => ?_)
  · rw [if_pos c_7] at hf
    exact w_X4_isHandle_24 hm hR hK hD σ hf _ _ _ hP hS (lv_sub hl [] rfl)
  · rw [if_neg c_7] at hf
    refine lv_aload_n hx hb dX4_isHandle_10 rfl (lv_at hl 0 rfl) ?_
    refine va_get (D := D) (ci := 3) (v := .ref (ad 12)) (C := RX4) (T := TX4) (N := 11) hx hb hts in_X4_isHandle_X4 hown hK hP 2 (wC_2 _ _ _ _ _) rfl 2 (by decide) (hts (.fieldLink RX4 15 "CallGraphs$Members" "sorts" "[I") (List.mem_of_getElem? (i := 1) rfl)) (fun _ h9 => h9) (fC_2_2 _ _) dX4_isHandle_11 ?_
    refine lv_iload_n hx hb dX4_isHandle_14 rfl (lv_at hl 1 rfl) ?_
    obtain ⟨h_15, hf⟩ := oi_e hf
    refine va_iald hx hb hK hP 12 0 (wC_12 _ _ _ _ _) rfl h_15 dX4_isHandle_15 ?_
    refine lv_iconst (v := 4) hx hb dX4_isHandle_16 (by decide) ?_
    refine lv_icmp_eq (tgt := 24) hx hb dX4_isHandle_17 (by decide) (fun c_17 => ?_) (fun c_17 => ?_)
    · rw [if_pos c_17] at hf
      exact w_X4_isHandle_24 hm hR hK hD σ hf _ _ _ hP hS (lv_sub hl [] rfl)
    · rw [if_neg c_17] at hf
      refine lv_iconst (v := 1) hx hb dX4_isHandle_20 (by decide) ?_
      refine lv_goto (tgt := 25) hx hb dX4_isHandle_21 (by decide) ?_
      exact w_X4_isHandle_25 hm hR hK hD σ 1 hf _ _ _ hP hS (lv_sub hl [] rfl)
theorem hd_X4_isHandle : yX4_isHandle.cls = RX4 ∧ yX4_isHandle.cls ≠ "java/lang/invoke/MethodHandle" ∧ yX4_isHandle.cls ≠ "java/lang/invoke/VarHandle" ∧ (parseMethodDescriptor yX4_isHandle.desc).map (fun d => d.parameters.length) = some 1 := by decide +kernel
set_option maxHeartbeats 4000000 in
set_option maxRecDepth 100000 in
theorem c_X4_isHandle (l : Launch) (D : va_G) (ad : Nat → Nat) (cI cJ cZ : ClassId) (σ : SS) (v1 : Int32) {res : Int32} (hf : p_X4_isHandle_0 σ v1 = some res) : Met l yX4_isHandle wsX4_isHandle ({ frames := 0, cells := 0, slots := 0, locals := 0 } : Room) (PW D (tyw cI cJ cZ) (wC ad cI cJ cZ σ) [.ref (ad 2), .int v1]) (va_Qi (fun (r : Int32) (u : SS) => r = res ∧ u = σ) (fun u t => va_P D vwCl (wC ad cI cJ cZ u) t.heap) (aC ad)) 0 0 (aC ad) := by
  refine Met.ofW (cc := cX4_isHandle) (maxL := 2) (ret := (some .boolean)) (by decide) rfl ?_
  intro p e s m args below meth c s₁ B hml hv
  obtain ⟨rfl, hP, hK, hD0⟩ := hv
  have hD : ∀ σ, va_D (aC ad) (wC ad cI cJ cZ σ) := fun σ => wd_D hD0 (wC_map _ _ _ _ _) (wC_map _ _ _ _ _)
  have hm : mx p s m _ meth c cX4_isHandle 2 (some .boolean) wsX4_isHandle RX4 := ⟨B.exec, B.bytes, B.returns, hml, findClass_of_methodNamed B.named, atoms_spec (ws := wsX4_isHandle) B.pre, B.notSynchronized⟩
  have hl := lv_entry ([.ref (ad 2), .int v1]) (n := 2) (Nat.le_of_ble_eq_true rfl)
  rw [lg_entry_eq]
  generalize (lg_sl ([.ref (ad 2), .int v1]) ++ List.replicate (2 - (lg_sl ([.ref (ad 2), .int v1])).length) Slot.unset).toArray = ls at hl ⊢
  exact w_X4_isHandle_0 hm ⟨Nat.le_refl _, Nat.le_refl _⟩ hK hD σ v1 hf _ _ _ hP va_S.rf hl
/-! CallGraphs$Members.turnRoot(I)V -/
theorem in_X4_turnRoot_X4 : ∀ w ∈ u_ws RX4 TX4 11, w ∈ wsX4_turnRoot := fun w h => List.mem_cons_of_mem _ (List.mem_append_right _ h)
def p_X4_turnRoot_0 (v1 : Int32) (σ : SS) : Option (SS) := os (sL σ 2 9 ((σ.2 2 9) ^^^ (jshl 1 v1))) (fun s_9 => some s_9)
set_option maxHeartbeats 4000000 in
set_option maxRecDepth 100000 in
theorem w_X4_turnRoot_0 {p : Program} {l : Launch} {e : Env} {R : Room} {s : State} {m : MethodId} {args : Array Value} {below : List Frame} {meth : Method} {c : Code} {D : va_G} {ad : Nat → Nat} {cI cJ cZ : ClassId} {res : SS} (hm : mx p s m args meth c cX4_turnRoot 2 none wsX4_turnRoot RX4) (hR : 0 ≤ R.frames ∧ 0 ≤ R.locals) (hK : va_K D vwCl (tyw cI cJ cZ) s) (hD : ∀ σ, va_D (aC ad) (wC ad cI cJ cZ σ)) (v1 : Int32) (σ : SS) (hf : p_X4_turnRoot_0 v1 σ = some res) (H : Heap) (locs : List Loc) (ls : Array Slot) (hP : va_P D vwCl (wC ad cI cJ cZ σ) H) (hS : va_S (aC ad) s.heap H locs) (hl : lv_has ls 2 [(0, .ref (ad 2)), (1, .int v1)]) : W p l e R s m args below meth c H locs 0 0 (MQ below (va_Qv (fun (u : SS) => u = res) (fun u t => va_P D vwCl (wC ad cI cJ cZ u) t.heap) (aC ad)) args s 0 0 (aC ad)) (F0 m 0 ls []) := by
  obtain ⟨hx, hb, hr, hml, hown, hts, hlk⟩ := id hm
  unfold p_X4_turnRoot_0 at hf
  refine lv_aload_n hx hb dX4_turnRoot_0 rfl (lv_at hl 0 rfl) ?_
  refine lv_dup hx hb dX4_turnRoot_1 rfl ?_
  refine va_get (D := D) (ci := 3) (v := .long (σ.2 2 9)) (C := RX4) (T := TX4) (N := 11) hx hb hts in_X4_turnRoot_X4 hown hK hP 2 (wC_2 _ _ _ _ _) rfl 9 (by decide) (hts (.fieldLink RX4 49 "CallGraphs$Members" "roots" "J") (List.mem_of_getElem? (i := 1) rfl)) (fun _ h9 => h9) (fC_2_9 _ _) dX4_turnRoot_2 ?_
  refine lv_lconst (v := 1) hx hb dX4_turnRoot_5 (by decide) ?_
  refine lv_iload_n hx hb dX4_turnRoot_6 rfl (lv_at hl 1 rfl) ?_
  refine lv_lshl (v := (jshl 1 v1)) hx hb dX4_turnRoot_7 rfl ?_
  refine lv_lxor hx hb dX4_turnRoot_8 ?_
  refine va_put (D := D) (ci := 3) (v := .long ((σ.2 2 9) ^^^ (jshl 1 v1))) (ty := .long) (C := RX4) (T := TX4) (N := 11) hx hb hts in_X4_turnRoot_X4 tyX4 tyX4_ok nmX4 hown hK hP (hD _) hS 2 (wC_2 _ _ _ _ _) rfl 9 (by decide) (hts (.fieldLink RX4 49 "CallGraphs$Members" "roots" "J") (List.mem_of_getElem? (i := 1) rfl)) (fun _ h9 => h9) rfl (tyX4_ok 9 (by decide)) rfl rfl (Nat.le_of_ble_eq_true rfl) dX4_turnRoot_9 (fun H locs hP _ hS => ?_)
  have hP := wC_p2_9 hP
  obtain ⟨s_9, es_9, hf⟩ := os_e hf
  rw [← es_9] at hP
  exact rt_v (wd := wC ad cI cJ cZ) hx hb hr hlk (Option.some.inj hf) hP hS dX4_turnRoot_12
theorem hd_X4_turnRoot : yX4_turnRoot.cls = RX4 ∧ yX4_turnRoot.cls ≠ "java/lang/invoke/MethodHandle" ∧ yX4_turnRoot.cls ≠ "java/lang/invoke/VarHandle" ∧ (parseMethodDescriptor yX4_turnRoot.desc).map (fun d => d.parameters.length) = some 1 := by decide +kernel
set_option maxHeartbeats 4000000 in
set_option maxRecDepth 100000 in
theorem c_X4_turnRoot (l : Launch) (D : va_G) (ad : Nat → Nat) (cI cJ cZ : ClassId) (σ : SS) (v1 : Int32) {res : SS} (hf : p_X4_turnRoot_0 v1 σ = some res) : Met l yX4_turnRoot wsX4_turnRoot ({ frames := 0, cells := 0, slots := 0, locals := 0 } : Room) (PW D (tyw cI cJ cZ) (wC ad cI cJ cZ σ) [.ref (ad 2), .int v1]) (va_Qv (fun (u : SS) => u = res) (fun u t => va_P D vwCl (wC ad cI cJ cZ u) t.heap) (aC ad)) 0 0 (aC ad) := by
  refine Met.ofW (cc := cX4_turnRoot) (maxL := 2) (ret := none) (by decide) rfl ?_
  intro p e s m args below meth c s₁ B hml hv
  obtain ⟨rfl, hP, hK, hD0⟩ := hv
  have hD : ∀ σ, va_D (aC ad) (wC ad cI cJ cZ σ) := fun σ => wd_D hD0 (wC_map _ _ _ _ _) (wC_map _ _ _ _ _)
  have hm : mx p s m _ meth c cX4_turnRoot 2 none wsX4_turnRoot RX4 := ⟨B.exec, B.bytes, B.returns, hml, findClass_of_methodNamed B.named, atoms_spec (ws := wsX4_turnRoot) B.pre, B.notSynchronized⟩
  have hl := lv_entry ([.ref (ad 2), .int v1]) (n := 2) (Nat.le_of_ble_eq_true rfl)
  rw [lg_entry_eq]
  generalize (lg_sl ([.ref (ad 2), .int v1]) ++ List.replicate (2 - (lg_sl ([.ref (ad 2), .int v1])).length) Slot.unset).toArray = ls at hl ⊢
  exact w_X4_turnRoot_0 hm ⟨Nat.le_refl _, Nat.le_refl _⟩ hK hD v1 σ hf _ _ _ hP va_S.rf hl
/-! CallGraphs$Members.addNamed(III)V -/
theorem in_X4_addNamed_X4 : ∀ w ∈ u_ws RX4 TX4 11, w ∈ wsX4_addNamed := fun w h => List.mem_cons_of_mem _ (List.mem_append_right _ h)
def p_X4_addNamed_100 (σ : SS) : Option (SS) := some σ
set_option maxHeartbeats 4000000 in
set_option maxRecDepth 100000 in
theorem w_X4_addNamed_100 {p : Program} {l : Launch} {e : Env} {R : Room} {s : State} {m : MethodId} {args : Array Value} {below : List Frame} {meth : Method} {c : Code} {D : va_G} {ad : Nat → Nat} {cI cJ cZ : ClassId} {res : SS} (hm : mx p s m args meth c cX4_addNamed 5 none wsX4_addNamed RX4) (hR : 1 ≤ R.frames ∧ 22 ≤ R.locals) (hK : va_K D vwCl (tyw cI cJ cZ) s) (hD : ∀ σ, va_D (aC ad) (wC ad cI cJ cZ σ)) (σ : SS) (hf : p_X4_addNamed_100 σ = some res) (H : Heap) (locs : List Loc) (ls : Array Slot) (hP : va_P D vwCl (wC ad cI cJ cZ σ) H) (hS : va_S (aC ad) s.heap H locs) (hl : lv_has ls 5 []) : W p l e R s m args below meth c H locs 0 0 (MQ below (va_Qv (fun (u : SS) => u = res) (fun u t => va_P D vwCl (wC ad cI cJ cZ u) t.heap) (aC ad)) args s 0 0 (aC ad)) (F0 m 100 ls []) := by
  obtain ⟨hx, hb, hr, hml, hown, hts, hlk⟩ := id hm
  unfold p_X4_addNamed_100 at hf
  exact rt_v (wd := wC ad cI cJ cZ) hx hb hr hlk (Option.some.inj hf) hP hS dX4_addNamed_100
def p_X4_addNamed_71 (v1 : Int32) (v2 : Int32) (v4 : Int32) (σ : SS) : Option (SS) := if v4 = 0 then oc (p_X0_with_0 (σ.2 2 7) v1) (fun r_82 => os (sL σ 2 7 r_82) (fun s_85 => oc (p_X0_with_0 (s_85.2 2 8) v2) (fun r_94 => os (sL s_85 2 8 r_94) (fun s_97 => p_X4_addNamed_100 s_97)))) else p_X4_addNamed_100 σ
set_option maxHeartbeats 4000000 in
set_option maxRecDepth 100000 in
theorem w_X4_addNamed_71 {p : Program} {l : Launch} {e : Env} {R : Room} {s : State} {m : MethodId} {args : Array Value} {below : List Frame} {meth : Method} {c : Code} {D : va_G} {ad : Nat → Nat} {cI cJ cZ : ClassId} {res : SS} (hm : mx p s m args meth c cX4_addNamed 5 none wsX4_addNamed RX4) (hR : 1 ≤ R.frames ∧ 22 ≤ R.locals) (hK : va_K D vwCl (tyw cI cJ cZ) s) (hD : ∀ σ, va_D (aC ad) (wC ad cI cJ cZ σ)) (v1 : Int32) (v2 : Int32) (v4 : Int32) (σ : SS) (hf : p_X4_addNamed_71 v1 v2 v4 σ = some res) (H : Heap) (locs : List Loc) (ls : Array Slot) (hP : va_P D vwCl (wC ad cI cJ cZ σ) H) (hS : va_S (aC ad) s.heap H locs) (hl : lv_has ls 5 [(0, .ref (ad 2)), (1, .int v1), (2, .int v2), (4, .int v4)]) : W p l e R s m args below meth c H locs 0 0 (MQ below (va_Qv (fun (u : SS) => u = res) (fun u t => va_P D vwCl (wC ad cI cJ cZ u) t.heap) (aC ad)) args s 0 0 (aC ad)) (F0 m 71 ls []) := by
  obtain ⟨hx, hb, hr, hml, hown, hts, hlk⟩ := id hm
  unfold p_X4_addNamed_71 at hf
  refine lv_iload hx hb dX4_addNamed_71 (lv_at hl 3 rfl) ?_
  refine lv_if_ne (tgt := 100) hx hb dX4_addNamed_73 (by decide) (fun c_73 => ?_) (fun c_73 => ?_)
  · rw [if_neg c_73] at hf
    exact w_X4_addNamed_100 hm hR hK hD σ hf _ _ _ hP hS (lv_sub hl [] rfl)
  · rw [if_pos c_73] at hf
    refine lv_aload_n hx hb dX4_addNamed_76 rfl (lv_at hl 0 rfl) ?_
    refine lv_aload_n hx hb dX4_addNamed_77 rfl (lv_at hl 0 rfl) ?_
    refine va_get (D := D) (ci := 3) (v := .long (σ.2 2 7)) (C := RX4) (T := TX4) (N := 11) hx hb hts in_X4_addNamed_X4 hown hK hP 2 (wC_2 _ _ _ _ _) rfl 7 (by decide) (hts (.fieldLink RX4 45 "CallGraphs$Members" "plain" "J") (List.mem_of_getElem? (i := 5) rfl)) (fun _ h9 => h9) (fC_2_7 _ _) dX4_addNamed_78 ?_
    refine lv_iload_n hx hb dX4_addNamed_81 rfl (lv_at hl 1 rfl) ?_
    obtain ⟨r_82, hg_82, hf⟩ := oc_e hf
    refine mS_l (D := D) (As := [.long (σ.2 2 7), .int v1]) (rest := [.ref (ad 2)]) ⟨hx, hb, hml, hown, hts⟩ hP hS (c_X0_with l (σ.2 2 7) v1 hg_82) (va_cwS 2 hts gX4_addNamed_X0_with rfl rfl rfl hd_X0_with ⟨Nat.le_trans (Nat.le_of_ble_eq_true rfl) hR.1, Nat.le_trans (Nat.le_of_ble_eq_true rfl) hR.2⟩) rfl hl.1 rfl (Nat.le_of_ble_eq_true rfl) dX4_addNamed_82 (fun H locs hP hS => ?_)
    refine va_put (D := D) (ci := 3) (v := .long r_82) (ty := .long) (C := RX4) (T := TX4) (N := 11) hx hb hts in_X4_addNamed_X4 tyX4 tyX4_ok nmX4 hown hK hP (hD _) hS 2 (wC_2 _ _ _ _ _) rfl 7 (by decide) (hts (.fieldLink RX4 45 "CallGraphs$Members" "plain" "J") (List.mem_of_getElem? (i := 5) rfl)) (fun _ h9 => h9) rfl (tyX4_ok 7 (by decide)) rfl rfl (Nat.le_of_ble_eq_true rfl) dX4_addNamed_85 (fun H locs hP _ hS => ?_)
    have hP := wC_p2_7 hP
    obtain ⟨s_85, es_85, hf⟩ := os_e hf
    rw [← es_85] at hP
    refine lv_aload_n hx hb dX4_addNamed_88 rfl (lv_at hl 0 rfl) ?_
    refine lv_aload_n hx hb dX4_addNamed_89 rfl (lv_at hl 0 rfl) ?_
    refine va_get (D := D) (ci := 3) (v := .long (s_85.2 2 8)) (C := RX4) (T := TX4) (N := 11) hx hb hts in_X4_addNamed_X4 hown hK hP 2 (wC_2 _ _ _ _ _) rfl 8 (by decide) (hts (.fieldLink RX4 70 "CallGraphs$Members" "plainTypes" "J") (List.mem_of_getElem? (i := 6) rfl)) (fun _ h9 => h9) (fC_2_8 _ _) dX4_addNamed_90 ?_
    refine lv_iload_n hx hb dX4_addNamed_93 rfl (lv_at hl 2 rfl) ?_
    obtain ⟨r_94, hg_94, hf⟩ := oc_e hf
    refine mS_l (D := D) (As := [.long (s_85.2 2 8), .int v2]) (rest := [.ref (ad 2)]) ⟨hx, hb, hml, hown, hts⟩ hP hS (c_X0_with l (s_85.2 2 8) v2 hg_94) (va_cwS 2 hts gX4_addNamed_X0_with rfl rfl rfl hd_X0_with ⟨Nat.le_trans (Nat.le_of_ble_eq_true rfl) hR.1, Nat.le_trans (Nat.le_of_ble_eq_true rfl) hR.2⟩) rfl hl.1 rfl (Nat.le_of_ble_eq_true rfl) dX4_addNamed_94 (fun H locs hP hS => ?_)
    refine va_put (D := D) (ci := 3) (v := .long r_94) (ty := .long) (C := RX4) (T := TX4) (N := 11) hx hb hts in_X4_addNamed_X4 tyX4 tyX4_ok nmX4 hown hK hP (hD _) hS 2 (wC_2 _ _ _ _ _) rfl 8 (by decide) (hts (.fieldLink RX4 70 "CallGraphs$Members" "plainTypes" "J") (List.mem_of_getElem? (i := 6) rfl)) (fun _ h9 => h9) rfl (tyX4_ok 8 (by decide)) rfl rfl (Nat.le_of_ble_eq_true rfl) dX4_addNamed_97 (fun H locs hP _ hS => ?_)
    have hP := wC_p2_8 hP
    obtain ⟨s_97, es_97, hf⟩ := os_e hf
    rw [← es_97] at hP
    exact w_X4_addNamed_100 hm hR hK hD s_97 hf _ _ _ hP hS (lv_sub hl [] rfl)
def p_X4_addNamed_55 (v1 : Int32) (v2 : Int32) (v3 : Int32) (v4 : Int32) (σ : SS) : Option (SS) := oi v3 10 (oc (p_X0_with_0 (σ.2 16 v3.toNatClampNeg) v2) (fun r_67 => oi v3 10 (os (sL σ 16 (v3.toNatClampNeg) r_67) (fun s_70 => p_X4_addNamed_71 v1 v2 v4 s_70))))
set_option maxHeartbeats 4000000 in
set_option maxRecDepth 100000 in
theorem w_X4_addNamed_55 {p : Program} {l : Launch} {e : Env} {R : Room} {s : State} {m : MethodId} {args : Array Value} {below : List Frame} {meth : Method} {c : Code} {D : va_G} {ad : Nat → Nat} {cI cJ cZ : ClassId} {res : SS} (hm : mx p s m args meth c cX4_addNamed 5 none wsX4_addNamed RX4) (hR : 1 ≤ R.frames ∧ 22 ≤ R.locals) (hK : va_K D vwCl (tyw cI cJ cZ) s) (hD : ∀ σ, va_D (aC ad) (wC ad cI cJ cZ σ)) (v1 : Int32) (v2 : Int32) (v3 : Int32) (v4 : Int32) (σ : SS) (hf : p_X4_addNamed_55 v1 v2 v3 v4 σ = some res) (H : Heap) (locs : List Loc) (ls : Array Slot) (hP : va_P D vwCl (wC ad cI cJ cZ σ) H) (hS : va_S (aC ad) s.heap H locs) (hl : lv_has ls 5 [(0, .ref (ad 2)), (1, .int v1), (2, .int v2), (3, .int v3), (4, .int v4)]) : W p l e R s m args below meth c H locs 0 0 (MQ below (va_Qv (fun (u : SS) => u = res) (fun u t => va_P D vwCl (wC ad cI cJ cZ u) t.heap) (aC ad)) args s 0 0 (aC ad)) (F0 m 55 ls []) := by
  obtain ⟨hx, hb, hr, hml, hown, hts, hlk⟩ := id hm
  unfold p_X4_addNamed_55 at hf
  refine lv_aload_n hx hb dX4_addNamed_55 rfl (lv_at hl 0 rfl) ?_
  refine va_get (D := D) (ci := 3) (v := .ref (ad 16)) (C := RX4) (T := TX4) (N := 11) hx hb hts in_X4_addNamed_X4 hown hK hP 2 (wC_2 _ _ _ _ _) rfl 6 (by decide) (hts (.fieldLink RX4 28 "CallGraphs$Members" "passers" "[J") (List.mem_of_getElem? (i := 4) rfl)) (fun _ h9 => h9) (fC_2_6 _ _) dX4_addNamed_56 ?_
  refine lv_iload_n hx hb dX4_addNamed_59 rfl (lv_at hl 3 rfl) ?_
  refine lv_aload_n hx hb dX4_addNamed_60 rfl (lv_at hl 0 rfl) ?_
  refine va_get (D := D) (ci := 3) (v := .ref (ad 16)) (C := RX4) (T := TX4) (N := 11) hx hb hts in_X4_addNamed_X4 hown hK hP 2 (wC_2 _ _ _ _ _) rfl 6 (by decide) (hts (.fieldLink RX4 28 "CallGraphs$Members" "passers" "[J") (List.mem_of_getElem? (i := 4) rfl)) (fun _ h9 => h9) (fC_2_6 _ _) dX4_addNamed_61 ?_
  refine lv_iload_n hx hb dX4_addNamed_64 rfl (lv_at hl 3 rfl) ?_
  obtain ⟨h_65, hf⟩ := oi_e hf
  refine va_lald hx hb hK hP 16 1 (wC_16 _ _ _ _ _) rfl h_65 dX4_addNamed_65 ?_
  refine lv_iload_n hx hb dX4_addNamed_66 rfl (lv_at hl 2 rfl) ?_
  obtain ⟨r_67, hg_67, hf⟩ := oc_e hf
  refine mS_l (D := D) (As := [.long (σ.2 16 v3.toNatClampNeg), .int v2]) (rest := [.int v3, .ref (ad 16)]) ⟨hx, hb, hml, hown, hts⟩ hP hS (c_X0_with l (σ.2 16 v3.toNatClampNeg) v2 hg_67) (va_cwS 2 hts gX4_addNamed_X0_with rfl rfl rfl hd_X0_with ⟨Nat.le_trans (Nat.le_of_ble_eq_true rfl) hR.1, Nat.le_trans (Nat.le_of_ble_eq_true rfl) hR.2⟩) rfl hl.1 rfl (Nat.le_of_ble_eq_true rfl) dX4_addNamed_67 (fun H locs hP hS => ?_)
  obtain ⟨h_70, hf⟩ := oi_e hf
  refine va_last hx hb hK hP (hD _) hS 16 1 (wC_16 _ _ _ _ _) rfl h_70 dX4_addNamed_70 (fun H locs hP _ hS => ?_)
  have hP := wC_s16 hP
  obtain ⟨s_70, es_70, hf⟩ := os_e hf
  rw [← es_70] at hP
  exact w_X4_addNamed_71 hm hR hK hD v1 v2 v4 s_70 hf _ _ _ hP hS (lv_sub hl [0, 1, 2, 4] rfl)
def p_X4_addNamed_44 (v1 : Int32) (v2 : Int32) (v3 : Int32) (v4 : Int32) (σ : SS) : Option (SS) := if v4 = 0 then p_X4_addNamed_55 v1 v2 v3 v4 σ else if v4 = 1 then p_X4_addNamed_55 v1 v2 v3 v4 σ else p_X4_addNamed_71 v1 v2 v4 σ
set_option maxHeartbeats 4000000 in
set_option maxRecDepth 100000 in
theorem w_X4_addNamed_44 {p : Program} {l : Launch} {e : Env} {R : Room} {s : State} {m : MethodId} {args : Array Value} {below : List Frame} {meth : Method} {c : Code} {D : va_G} {ad : Nat → Nat} {cI cJ cZ : ClassId} {res : SS} (hm : mx p s m args meth c cX4_addNamed 5 none wsX4_addNamed RX4) (hR : 1 ≤ R.frames ∧ 22 ≤ R.locals) (hK : va_K D vwCl (tyw cI cJ cZ) s) (hD : ∀ σ, va_D (aC ad) (wC ad cI cJ cZ σ)) (v1 : Int32) (v2 : Int32) (v3 : Int32) (v4 : Int32) (σ : SS) (hf : p_X4_addNamed_44 v1 v2 v3 v4 σ = some res) (H : Heap) (locs : List Loc) (ls : Array Slot) (hP : va_P D vwCl (wC ad cI cJ cZ σ) H) (hS : va_S (aC ad) s.heap H locs) (hl : lv_has ls 5 [(0, .ref (ad 2)), (1, .int v1), (2, .int v2), (3, .int v3), (4, .int v4)]) : W p l e R s m args below meth c H locs 0 0 (MQ below (va_Qv (fun (u : SS) => u = res) (fun u t => va_P D vwCl (wC ad cI cJ cZ u) t.heap) (aC ad)) args s 0 0 (aC ad)) (F0 m 44 ls []) := by
  obtain ⟨hx, hb, hr, hml, hown, hts, hlk⟩ := id hm
  unfold p_X4_addNamed_44 at hf
  refine lv_iload hx hb dX4_addNamed_44 (lv_at hl 4 rfl) ?_
  refine lv_if_eq (tgt := 55) hx hb dX4_addNamed_46 (by decide) (fun c_46 => ?_) (fun c_46 => ?_)
  · rw [if_pos c_46] at hf
    exact w_X4_addNamed_55 hm hR hK hD v1 v2 v3 v4 σ hf _ _ _ hP hS (lv_sub hl [0, 1, 2, 3, 4] rfl)
  · rw [if_neg c_46] at hf
    refine lv_iload hx hb dX4_addNamed_49 (lv_at hl 4 rfl) ?_
    refine lv_iconst (v := 1) hx hb dX4_addNamed_51 (by decide) ?_
    refine lv_icmp_ne (tgt := 71) hx hb dX4_addNamed_52 (by decide) (fun c_52 => ?_) (fun c_52 => ?_)
    · rw [if_neg c_52] at hf
      exact w_X4_addNamed_71 hm hR hK hD v1 v2 v4 σ hf _ _ _ hP hS (lv_sub hl [0, 1, 2, 4] rfl)
    · rw [if_pos c_52] at hf
      exact w_X4_addNamed_55 hm hR hK hD v1 v2 v3 v4 σ hf _ _ _ hP hS (lv_sub hl [0, 1, 2, 3, 4] rfl)
def p_X4_addNamed_0 (v1 : Int32) (v2 : Int32) (v3 : Int32) (σ : SS) : Option (SS) := oi ((v2 * 10) + v3) 160 (os (sI σ 13 (((v2 * 10) + v3).toNatClampNeg) v1) (fun s_11 => oi v1 48 (oc (p_X4_isHandle_0 s_11 v1) (fun r_22 => if r_22 = 0 then p_X4_addNamed_44 v1 v2 v3 (s_11.1 12 v1.toNatClampNeg) s_11 else oi v3 10 (oc (p_X0_with_0 (s_11.2 15 v3.toNatClampNeg) v1) (fun r_40 => oi v3 10 (os (sL s_11 15 (v3.toNatClampNeg) r_40) (fun s_43 => p_X4_addNamed_44 v1 v2 v3 (s_11.1 12 v1.toNatClampNeg) s_43))))))))
set_option maxHeartbeats 4000000 in
set_option maxRecDepth 100000 in
theorem w_X4_addNamed_0 {p : Program} {l : Launch} {e : Env} {R : Room} {s : State} {m : MethodId} {args : Array Value} {below : List Frame} {meth : Method} {c : Code} {D : va_G} {ad : Nat → Nat} {cI cJ cZ : ClassId} {res : SS} (hm : mx p s m args meth c cX4_addNamed 5 none wsX4_addNamed RX4) (hR : 1 ≤ R.frames ∧ 22 ≤ R.locals) (hK : va_K D vwCl (tyw cI cJ cZ) s) (hD : ∀ σ, va_D (aC ad) (wC ad cI cJ cZ σ)) (v1 : Int32) (v2 : Int32) (v3 : Int32) (σ : SS) (hf : p_X4_addNamed_0 v1 v2 v3 σ = some res) (H : Heap) (locs : List Loc) (ls : Array Slot) (hP : va_P D vwCl (wC ad cI cJ cZ σ) H) (hS : va_S (aC ad) s.heap H locs) (hl : lv_has ls 5 [(0, .ref (ad 2)), (1, .int v1), (2, .int v2), (3, .int v3)]) : W p l e R s m args below meth c H locs 0 0 (MQ below (va_Qv (fun (u : SS) => u = res) (fun u t => va_P D vwCl (wC ad cI cJ cZ u) t.heap) (aC ad)) args s 0 0 (aC ad)) (F0 m 0 ls []) := by
  obtain ⟨hx, hb, hr, hml, hown, hts, hlk⟩ := id hm
  unfold p_X4_addNamed_0 at hf
  refine lv_aload_n hx hb dX4_addNamed_0 rfl (lv_at hl 0 rfl) ?_
  refine va_get (D := D) (ci := 3) (v := .ref (ad 13)) (C := RX4) (T := TX4) (N := 11) hx hb hts in_X4_addNamed_X4 hown hK hP 2 (wC_2 _ _ _ _ _) rfl 3 (by decide) (hts (.fieldLink RX4 18 "CallGraphs$Members" "byName" "[I") (List.mem_of_getElem? (i := 1) rfl)) (fun _ h9 => h9) (fC_2_3 _ _) dX4_addNamed_1 ?_
  refine lv_iload_n hx hb dX4_addNamed_4 rfl (lv_at hl 2 rfl) ?_
  refine lv_bipush (v := 10) hx hb dX4_addNamed_5 (by decide) ?_
  refine lv_imul hx hb dX4_addNamed_7 ?_
  refine lv_iload_n hx hb dX4_addNamed_8 rfl (lv_at hl 3 rfl) ?_
  refine lv_iadd hx hb dX4_addNamed_9 ?_
  refine lv_iload_n hx hb dX4_addNamed_10 rfl (lv_at hl 1 rfl) ?_
  obtain ⟨h_11, hf⟩ := oi_e hf
  refine va_iast hx hb hK hP (hD _) hS 13 0 (wC_13 _ _ _ _ _) rfl h_11 dX4_addNamed_11 (fun H locs hP _ hS => ?_)
  have hP := wC_s13 hP
  obtain ⟨s_11, es_11, hf⟩ := os_e hf
  rw [← es_11] at hP
  refine lv_aload_n hx hb dX4_addNamed_12 rfl (lv_at hl 0 rfl) ?_
  refine va_get (D := D) (ci := 3) (v := .ref (ad 12)) (C := RX4) (T := TX4) (N := 11) hx hb hts in_X4_addNamed_X4 hown hK hP 2 (wC_2 _ _ _ _ _) rfl 2 (by decide) (hts (.fieldLink RX4 15 "CallGraphs$Members" "sorts" "[I") (List.mem_of_getElem? (i := 2) rfl)) (fun _ h9 => h9) (fC_2_2 _ _) dX4_addNamed_13 ?_
  refine lv_iload_n hx hb dX4_addNamed_16 rfl (lv_at hl 1 rfl) ?_
  obtain ⟨h_17, hf⟩ := oi_e hf
  refine va_iald hx hb hK hP 12 0 (wC_12 _ _ _ _ _) rfl h_17 dX4_addNamed_17 ?_
  refine lv_istore (lv' := [(4, .int (s_11.1 12 v1.toNatClampNeg)), (0, .ref (ad 2)), (1, .int v1), (2, .int v2), (3, .int v3)]) hx hb dX4_addNamed_18 hl (by decide) rfl (fun ls hl => ?_)
  refine lv_aload_n hx hb dX4_addNamed_20 rfl (lv_at hl 1 rfl) ?_
  refine lv_iload_n hx hb dX4_addNamed_21 rfl (lv_at hl 2 rfl) ?_
  obtain ⟨r_22, hg_22, hf⟩ := oc_e hf
  refine mV_ri (wd := wC ad cI cJ cZ) (σ := s_11) (As := [.int v1]) (rest := []) ⟨hx, hb, hml, hown, hts⟩ hK hP hD hS (c_X4_isHandle l D ad cI cJ cZ s_11 v1 hg_22) (cwV 1 hts gX4_addNamed_X4_isHandle rfl rfl rfl hd_X4_isHandle ⟨Nat.le_trans (Nat.le_of_ble_eq_true rfl) hR.1, Nat.le_trans (Nat.le_of_ble_eq_true rfl) hR.2⟩) rfl (wC_2 _ _ _ _ _) rfl hl.1 rfl (Nat.le_of_ble_eq_true rfl) dX4_addNamed_22 (fun H locs hP hS => ?_)
  refine lv_if_eq (tgt := 44) hx hb dX4_addNamed_25 (by decide) (fun c_25 => ?_) (fun c_25 => ?_)
  · rw [if_pos c_25] at hf
    exact w_X4_addNamed_44 hm hR hK hD v1 v2 v3 (s_11.1 12 v1.toNatClampNeg) s_11 hf _ _ _ hP hS (lv_sub hl [1, 2, 3, 4, 0] rfl)
  · rw [if_neg c_25] at hf
    refine lv_aload_n hx hb dX4_addNamed_28 rfl (lv_at hl 1 rfl) ?_
    refine va_get (D := D) (ci := 3) (v := .ref (ad 15)) (C := RX4) (T := TX4) (N := 11) hx hb hts in_X4_addNamed_X4 hown hK hP 2 (wC_2 _ _ _ _ _) rfl 5 (by decide) (hts (.fieldLink RX4 24 "CallGraphs$Members" "handles" "[J") (List.mem_of_getElem? (i := 3) rfl)) (fun _ h9 => h9) (fC_2_5 _ _) dX4_addNamed_29 ?_
    refine lv_iload_n hx hb dX4_addNamed_32 rfl (lv_at hl 4 rfl) ?_
    refine lv_aload_n hx hb dX4_addNamed_33 rfl (lv_at hl 1 rfl) ?_
    refine va_get (D := D) (ci := 3) (v := .ref (ad 15)) (C := RX4) (T := TX4) (N := 11) hx hb hts in_X4_addNamed_X4 hown hK hP 2 (wC_2 _ _ _ _ _) rfl 5 (by decide) (hts (.fieldLink RX4 24 "CallGraphs$Members" "handles" "[J") (List.mem_of_getElem? (i := 3) rfl)) (fun _ h9 => h9) (fC_2_5 _ _) dX4_addNamed_34 ?_
    refine lv_iload_n hx hb dX4_addNamed_37 rfl (lv_at hl 4 rfl) ?_
    obtain ⟨h_38, hf⟩ := oi_e hf
    refine va_lald hx hb hK hP 15 1 (wC_15 _ _ _ _ _) rfl h_38 dX4_addNamed_38 ?_
    refine lv_iload_n hx hb dX4_addNamed_39 rfl (lv_at hl 2 rfl) ?_
    obtain ⟨r_40, hg_40, hf⟩ := oc_e hf
    refine mS_l (D := D) (As := [.long (s_11.2 15 v3.toNatClampNeg), .int v1]) (rest := [.int v3, .ref (ad 15)]) ⟨hx, hb, hml, hown, hts⟩ hP hS (c_X0_with l (s_11.2 15 v3.toNatClampNeg) v1 hg_40) (va_cwS 2 hts gX4_addNamed_X0_with rfl rfl rfl hd_X0_with ⟨Nat.le_trans (Nat.le_of_ble_eq_true rfl) hR.1, Nat.le_trans (Nat.le_of_ble_eq_true rfl) hR.2⟩) rfl hl.1 rfl (Nat.le_of_ble_eq_true rfl) dX4_addNamed_40 (fun H locs hP hS => ?_)
    obtain ⟨h_43, hf⟩ := oi_e hf
    refine va_last hx hb hK hP (hD _) hS 15 1 (wC_15 _ _ _ _ _) rfl h_43 dX4_addNamed_43 (fun H locs hP _ hS => ?_)
    have hP := wC_s15 hP
    obtain ⟨s_43, es_43, hf⟩ := os_e hf
    rw [← es_43] at hP
    exact w_X4_addNamed_44 hm hR hK hD v1 v2 v3 (s_11.1 12 v1.toNatClampNeg) s_43 hf _ _ _ hP hS (lv_sub hl [1, 2, 3, 4, 0] rfl)
theorem hd_X4_addNamed : yX4_addNamed.cls = RX4 ∧ yX4_addNamed.cls ≠ "java/lang/invoke/MethodHandle" ∧ yX4_addNamed.cls ≠ "java/lang/invoke/VarHandle" ∧ (parseMethodDescriptor yX4_addNamed.desc).map (fun d => d.parameters.length) = some 3 := by decide +kernel
set_option maxHeartbeats 4000000 in
set_option maxRecDepth 100000 in
theorem c_X4_addNamed (l : Launch) (D : va_G) (ad : Nat → Nat) (cI cJ cZ : ClassId) (σ : SS) (v1 : Int32) (v2 : Int32) (v3 : Int32) {res : SS} (hf : p_X4_addNamed_0 v1 v2 v3 σ = some res) : Met l yX4_addNamed wsX4_addNamed ({ frames := 1, cells := 0, slots := 0, locals := 22 } : Room) (PW D (tyw cI cJ cZ) (wC ad cI cJ cZ σ) [.ref (ad 2), .int v1, .int v2, .int v3]) (va_Qv (fun (u : SS) => u = res) (fun u t => va_P D vwCl (wC ad cI cJ cZ u) t.heap) (aC ad)) 0 0 (aC ad) := by
  refine Met.ofW (cc := cX4_addNamed) (maxL := 5) (ret := none) (by decide) rfl ?_
  intro p e s m args below meth c s₁ B hml hv
  obtain ⟨rfl, hP, hK, hD0⟩ := hv
  have hD : ∀ σ, va_D (aC ad) (wC ad cI cJ cZ σ) := fun σ => wd_D hD0 (wC_map _ _ _ _ _) (wC_map _ _ _ _ _)
  have hm : mx p s m _ meth c cX4_addNamed 5 none wsX4_addNamed RX4 := ⟨B.exec, B.bytes, B.returns, hml, findClass_of_methodNamed B.named, atoms_spec (ws := wsX4_addNamed) B.pre, B.notSynchronized⟩
  have hl := lv_entry ([.ref (ad 2), .int v1, .int v2, .int v3]) (n := 5) (Nat.le_of_ble_eq_true rfl)
  rw [lg_entry_eq]
  generalize (lg_sl ([.ref (ad 2), .int v1, .int v2, .int v3]) ++ List.replicate (5 - (lg_sl ([.ref (ad 2), .int v1, .int v2, .int v3])).length) Slot.unset).toArray = ls at hl ⊢
  exact w_X4_addNamed_0 hm ⟨Nat.le_refl _, Nat.le_refl _⟩ hK hD v1 v2 v3 σ hf _ _ _ hP va_S.rf hl
/-! CallGraphs$Members.add(III)I -/
theorem in_X4_add_X4 : ∀ w ∈ u_ws RX4 TX4 11, w ∈ wsX4_add := fun w h => List.mem_cons_of_mem _ (List.mem_append_right _ h)
def p_X4_add_56 (v4 : Int32) (σ : SS) : Option (Int32 × SS) := some (v4, σ)
set_option maxHeartbeats 4000000 in
set_option maxRecDepth 100000 in
theorem w_X4_add_56 {p : Program} {l : Launch} {e : Env} {R : Room} {s : State} {m : MethodId} {args : Array Value} {below : List Frame} {meth : Method} {c : Code} {D : va_G} {ad : Nat → Nat} {cI cJ cZ : ClassId} {res : Int32 × SS} (hm : mx p s m args meth c cX4_add 5 (some .int) wsX4_add RX4) (hR : 2 ≤ R.frames ∧ 46 ≤ R.locals) (hK : va_K D vwCl (tyw cI cJ cZ) s) (hD : ∀ σ, va_D (aC ad) (wC ad cI cJ cZ σ)) (v4 : Int32) (σ : SS) (hf : p_X4_add_56 v4 σ = some res) (H : Heap) (locs : List Loc) (ls : Array Slot) (hP : va_P D vwCl (wC ad cI cJ cZ σ) H) (hS : va_S (aC ad) s.heap H locs) (hl : lv_has ls 5 [(4, .int v4)]) : W p l e R s m args below meth c H locs 0 0 (MQ below (va_Qi (fun (r : Int32) (u : SS) => (r, u) = res) (fun u t => va_P D vwCl (wC ad cI cJ cZ u) t.heap) (aC ad)) args s 0 0 (aC ad)) (F0 m 56 ls []) := by
  obtain ⟨hx, hb, hr, hml, hown, hts, hlk⟩ := id hm
  unfold p_X4_add_56 at hf
  refine lv_iload hx hb dX4_add_56 (lv_at hl 0 rfl) ?_
  exact rt_i (wd := wC ad cI cJ cZ) hx hb hr hlk (Option.some.inj hf) hP hS dX4_add_58
def p_X4_add_0 (v1 : Int32) (v2 : Int32) (v3 : Int32) (σ : SS) : Option (Int32 × SS) := oi (σ.1 2 10) 48 (os (sI σ 11 ((σ.1 2 10).toNatClampNeg) v1) (fun s_13 => oi (σ.1 2 10) 48 (os (sI s_13 12 ((σ.1 2 10).toNatClampNeg) v3) (fun s_21 => os (sI s_21 2 10 ((s_21.1 2 10) + 1)) (fun s_29 => if v3 = 4 then oi v1 16 (os (sI s_29 14 (v1.toNatClampNeg) (σ.1 2 10)) (fun s_44 => p_X4_add_56 (σ.1 2 10) s_44)) else oc (p_X4_addNamed_0 (σ.1 2 10) v1 v2 s_29) (fun r_53 => p_X4_add_56 (σ.1 2 10) r_53))))))
set_option maxHeartbeats 4000000 in
set_option maxRecDepth 100000 in
theorem w_X4_add_0 {p : Program} {l : Launch} {e : Env} {R : Room} {s : State} {m : MethodId} {args : Array Value} {below : List Frame} {meth : Method} {c : Code} {D : va_G} {ad : Nat → Nat} {cI cJ cZ : ClassId} {res : Int32 × SS} (hm : mx p s m args meth c cX4_add 5 (some .int) wsX4_add RX4) (hR : 2 ≤ R.frames ∧ 46 ≤ R.locals) (hK : va_K D vwCl (tyw cI cJ cZ) s) (hD : ∀ σ, va_D (aC ad) (wC ad cI cJ cZ σ)) (v1 : Int32) (v2 : Int32) (v3 : Int32) (σ : SS) (hf : p_X4_add_0 v1 v2 v3 σ = some res) (H : Heap) (locs : List Loc) (ls : Array Slot) (hP : va_P D vwCl (wC ad cI cJ cZ σ) H) (hS : va_S (aC ad) s.heap H locs) (hl : lv_has ls 5 [(0, .ref (ad 2)), (1, .int v1), (2, .int v2), (3, .int v3)]) : W p l e R s m args below meth c H locs 0 0 (MQ below (va_Qi (fun (r : Int32) (u : SS) => (r, u) = res) (fun u t => va_P D vwCl (wC ad cI cJ cZ u) t.heap) (aC ad)) args s 0 0 (aC ad)) (F0 m 0 ls []) := by
  obtain ⟨hx, hb, hr, hml, hown, hts, hlk⟩ := id hm
  unfold p_X4_add_0 at hf
  refine lv_aload_n hx hb dX4_add_0 rfl (lv_at hl 0 rfl) ?_
  refine va_get (D := D) (ci := 3) (v := .int (σ.1 2 10)) (C := RX4) (T := TX4) (N := 11) hx hb hts in_X4_add_X4 hown hK hP 2 (wC_2 _ _ _ _ _) rfl 10 (by decide) (hts (.fieldLink RX4 41 "CallGraphs$Members" "count" "I") (List.mem_of_getElem? (i := 1) rfl)) (fun _ h9 => h9) (fC_2_10 _ _) dX4_add_1 ?_
  refine lv_istore (lv' := [(4, .int (σ.1 2 10)), (0, .ref (ad 2)), (1, .int v1), (2, .int v2), (3, .int v3)]) hx hb dX4_add_4 hl (by decide) rfl (fun ls hl => ?_)
  refine lv_aload_n hx hb dX4_add_6 rfl (lv_at hl 1 rfl) ?_
  refine va_get (D := D) (ci := 3) (v := .ref (ad 11)) (C := RX4) (T := TX4) (N := 11) hx hb hts in_X4_add_X4 hown hK hP 2 (wC_2 _ _ _ _ _) rfl 1 (by decide) (hts (.fieldLink RX4 9 "CallGraphs$Members" "owners" "[I") (List.mem_of_getElem? (i := 2) rfl)) (fun _ h9 => h9) (fC_2_1 _ _) dX4_add_7 ?_
  refine lv_iload hx hb dX4_add_10 (lv_at hl 0 rfl) ?_
  refine lv_iload_n hx hb dX4_add_12 rfl (lv_at hl 2 rfl) ?_
  obtain ⟨h_13, hf⟩ := oi_e hf
  refine va_iast hx hb hK hP (hD _) hS 11 0 (wC_11 _ _ _ _ _) rfl h_13 dX4_add_13 (fun H locs hP _ hS => ?_)
  have hP := wC_s11 hP
  obtain ⟨s_13, es_13, hf⟩ := os_e hf
  rw [← es_13] at hP
  refine lv_aload_n hx hb dX4_add_14 rfl (lv_at hl 1 rfl) ?_
  refine va_get (D := D) (ci := 3) (v := .ref (ad 12)) (C := RX4) (T := TX4) (N := 11) hx hb hts in_X4_add_X4 hown hK hP 2 (wC_2 _ _ _ _ _) rfl 2 (by decide) (hts (.fieldLink RX4 15 "CallGraphs$Members" "sorts" "[I") (List.mem_of_getElem? (i := 3) rfl)) (fun _ h9 => h9) (fC_2_2 _ _) dX4_add_15 ?_
  refine lv_iload hx hb dX4_add_18 (lv_at hl 0 rfl) ?_
  refine lv_iload_n hx hb dX4_add_20 rfl (lv_at hl 4 rfl) ?_
  obtain ⟨h_21, hf⟩ := oi_e hf
  refine va_iast hx hb hK hP (hD _) hS 12 0 (wC_12 _ _ _ _ _) rfl h_21 dX4_add_21 (fun H locs hP _ hS => ?_)
  have hP := wC_s12 hP
  obtain ⟨s_21, es_21, hf⟩ := os_e hf
  rw [← es_21] at hP
  refine lv_aload_n hx hb dX4_add_22 rfl (lv_at hl 1 rfl) ?_
  refine lv_dup hx hb dX4_add_23 rfl ?_
  refine va_get (D := D) (ci := 3) (v := .int (s_21.1 2 10)) (C := RX4) (T := TX4) (N := 11) hx hb hts in_X4_add_X4 hown hK hP 2 (wC_2 _ _ _ _ _) rfl 10 (by decide) (hts (.fieldLink RX4 41 "CallGraphs$Members" "count" "I") (List.mem_of_getElem? (i := 1) rfl)) (fun _ h9 => h9) (fC_2_10 _ _) dX4_add_24 ?_
  refine lv_iconst (v := 1) hx hb dX4_add_27 (by decide) ?_
  refine lv_iadd hx hb dX4_add_28 ?_
  refine va_put (D := D) (ci := 3) (v := .int ((s_21.1 2 10) + 1)) (ty := .int) (C := RX4) (T := TX4) (N := 11) hx hb hts in_X4_add_X4 tyX4 tyX4_ok nmX4 hown hK hP (hD _) hS 2 (wC_2 _ _ _ _ _) rfl 10 (by decide) (hts (.fieldLink RX4 41 "CallGraphs$Members" "count" "I") (List.mem_of_getElem? (i := 1) rfl)) (fun _ h9 => h9) rfl (tyX4_ok 10 (by decide)) rfl rfl (Nat.le_of_ble_eq_true rfl) dX4_add_29 (fun H locs hP _ hS => ?_)
  have hP := wC_p2_10 hP
  obtain ⟨s_29, es_29, hf⟩ := os_e hf
  rw [← es_29] at hP
  refine lv_iload_n hx hb dX4_add_32 rfl (lv_at hl 4 rfl) ?_
  refine lv_iconst (v := 4) hx hb dX4_add_33 (by decide) ?_
  refine lv_icmp_ne (tgt := 48) hx hb dX4_add_34 (by decide) (fun c_34 => ?_) (fun c_34 => ?_)
  · rw [if_neg c_34] at hf
    refine lv_aload_n hx hb dX4_add_48 rfl (lv_at hl 1 rfl) ?_
    refine lv_iload hx hb dX4_add_49 (lv_at hl 0 rfl) ?_
    refine lv_iload_n hx hb dX4_add_51 rfl (lv_at hl 2 rfl) ?_
    refine lv_iload_n hx hb dX4_add_52 rfl (lv_at hl 3 rfl) ?_
    obtain ⟨r_53, hg_53, hf⟩ := oc_e hf
    refine mV_wv (wd := wC ad cI cJ cZ) (σ := s_29) (As := [.int (σ.1 2 10), .int v1, .int v2]) (rest := []) ⟨hx, hb, hml, hown, hts⟩ hK hP hD hS (c_X4_addNamed l D ad cI cJ cZ s_29 (σ.1 2 10) v1 v2 hg_53) (cwV 3 hts gX4_add_X4_addNamed rfl rfl rfl hd_X4_addNamed ⟨Nat.le_trans (Nat.le_of_ble_eq_true rfl) hR.1, Nat.le_trans (Nat.le_of_ble_eq_true rfl) hR.2⟩) rfl (wC_2 _ _ _ _ _) rfl hl.1 rfl (Nat.le_of_ble_eq_true rfl) dX4_add_53 (fun H locs hP hS => ?_)
    exact w_X4_add_56 hm hR hK hD (σ.1 2 10) r_53 hf _ _ _ hP hS (lv_sub hl [0] rfl)
  · rw [if_pos c_34] at hf
    refine lv_aload_n hx hb dX4_add_37 rfl (lv_at hl 1 rfl) ?_
    refine va_get (D := D) (ci := 3) (v := .ref (ad 14)) (C := RX4) (T := TX4) (N := 11) hx hb hts in_X4_add_X4 hown hK hP 2 (wC_2 _ _ _ _ _) rfl 4 (by decide) (hts (.fieldLink RX4 21 "CallGraphs$Members" "starts" "[I") (List.mem_of_getElem? (i := 4) rfl)) (fun _ h9 => h9) (fC_2_4 _ _) dX4_add_38 ?_
    refine lv_iload_n hx hb dX4_add_41 rfl (lv_at hl 2 rfl) ?_
    refine lv_iload hx hb dX4_add_42 (lv_at hl 0 rfl) ?_
    obtain ⟨h_44, hf⟩ := oi_e hf
    refine va_iast hx hb hK hP (hD _) hS 14 0 (wC_14 _ _ _ _ _) rfl h_44 dX4_add_44 (fun H locs hP _ hS => ?_)
    have hP := wC_s14 hP
    obtain ⟨s_44, es_44, hf⟩ := os_e hf
    rw [← es_44] at hP
    refine lv_goto (tgt := 56) hx hb dX4_add_45 (by decide) ?_
    exact w_X4_add_56 hm hR hK hD (σ.1 2 10) s_44 hf _ _ _ hP hS (lv_sub hl [0] rfl)
theorem hd_X4_add : yX4_add.cls = RX4 ∧ yX4_add.cls ≠ "java/lang/invoke/MethodHandle" ∧ yX4_add.cls ≠ "java/lang/invoke/VarHandle" ∧ (parseMethodDescriptor yX4_add.desc).map (fun d => d.parameters.length) = some 3 := by decide +kernel
set_option maxHeartbeats 4000000 in
set_option maxRecDepth 100000 in
theorem c_X4_add (l : Launch) (D : va_G) (ad : Nat → Nat) (cI cJ cZ : ClassId) (σ : SS) (v1 : Int32) (v2 : Int32) (v3 : Int32) {res : Int32 × SS} (hf : p_X4_add_0 v1 v2 v3 σ = some res) : Met l yX4_add wsX4_add ({ frames := 2, cells := 0, slots := 0, locals := 46 } : Room) (PW D (tyw cI cJ cZ) (wC ad cI cJ cZ σ) [.ref (ad 2), .int v1, .int v2, .int v3]) (va_Qi (fun (r : Int32) (u : SS) => (r, u) = res) (fun u t => va_P D vwCl (wC ad cI cJ cZ u) t.heap) (aC ad)) 0 0 (aC ad) := by
  refine Met.ofW (cc := cX4_add) (maxL := 5) (ret := (some .int)) (by decide) rfl ?_
  intro p e s m args below meth c s₁ B hml hv
  obtain ⟨rfl, hP, hK, hD0⟩ := hv
  have hD : ∀ σ, va_D (aC ad) (wC ad cI cJ cZ σ) := fun σ => wd_D hD0 (wC_map _ _ _ _ _) (wC_map _ _ _ _ _)
  have hm : mx p s m _ meth c cX4_add 5 (some .int) wsX4_add RX4 := ⟨B.exec, B.bytes, B.returns, hml, findClass_of_methodNamed B.named, atoms_spec (ws := wsX4_add) B.pre, B.notSynchronized⟩
  have hl := lv_entry ([.ref (ad 2), .int v1, .int v2, .int v3]) (n := 5) (Nat.le_of_ble_eq_true rfl)
  rw [lg_entry_eq]
  generalize (lg_sl ([.ref (ad 2), .int v1, .int v2, .int v3]) ++ List.replicate (5 - (lg_sl ([.ref (ad 2), .int v1, .int v2, .int v3])).length) Slot.unset).toArray = ls at hl ⊢
  exact w_X4_add_0 hm ⟨Nat.le_refl _, Nat.le_refl _⟩ hK hD v1 v2 v3 σ hf _ _ _ hP va_S.rf hl
