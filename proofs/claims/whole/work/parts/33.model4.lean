/-! CallGraphsModel.draw(I)I -/
theorem in_X8_draw_X8 : ∀ w ∈ u_ws RX8 TX8 50, w ∈ wsX8_draw := fun w h => List.mem_cons_of_mem _ (List.mem_append_right _ h)
def p_X8_draw_0 (v1 : Int32) (σ : SS) : Option (Int32 × SS) := os (sL σ 0 38 (((σ.2 0 38) * (6364136223846793005)) + (1442695040888963407))) (fun s_13 => oz (v1.toInt64) (some ((((jush (s_13.2 0 38) 33) - (jush (s_13.2 0 38) 33) / (v1.toInt64) * (v1.toInt64)).toInt32), s_13)))
set_option maxHeartbeats 4000000 in
set_option maxRecDepth 100000 in
theorem w_X8_draw_0 {p : Program} {l : Launch} {e : Env} {R : Room} {s : State} {m : MethodId} {args : Array Value} {below : List Frame} {meth : Method} {c : Code} {D : va_G} {ad : Nat → Nat} {cI cJ cZ : ClassId} {res : Int32 × SS} (hm : mx p s m args meth c cX8_draw 2 (some .int) wsX8_draw RX8) (hR : 0 ≤ R.frames ∧ 0 ≤ R.locals) (hK : va_K D vwCl (tyw cI cJ cZ) s) (hD : ∀ σ, va_D (aM ad) (wM ad cI cJ cZ σ)) (v1 : Int32) (σ : SS) (hf : p_X8_draw_0 v1 σ = some res) (H : Heap) (locs : List Loc) (ls : Array Slot) (hP : va_P D vwCl (wM ad cI cJ cZ σ) H) (hS : va_S (aM ad) s.heap H locs) (hl : lv_has ls 2 [(0, .ref (ad 0)), (1, .int v1)]) : W p l e R s m args below meth c H locs 0 0 (MQ below (va_Qi (fun (r : Int32) (u : SS) => (r, u) = res) (fun u t => va_P D vwCl (wM ad cI cJ cZ u) t.heap) (aM ad)) args s 0 0 (aM ad)) (F0 m 0 ls []) := by
  obtain ⟨hx, hb, hr, hml, hown, hts, hlk⟩ := id hm
  unfold p_X8_draw_0 at hf
  refine lv_aload_n hx hb dX8_draw_0 rfl (lv_at hl 0 rfl) ?_
  refine lv_aload_n hx hb dX8_draw_1 rfl (lv_at hl 0 rfl) ?_
  refine va_get (D := D) (ci := 7) (v := .long (σ.2 0 38)) (C := RX8) (T := TX8) (N := 50) hx hb hts in_X8_draw_X8 hown hK hP 0 (wM_0 _ _ _ _ _) rfl 38 (by decide) (hts (.fieldLink RX8 239 "CallGraphsModel" "x" "J") (List.mem_of_getElem? (i := 1) rfl)) (fun _ h9 => h9) (fM_0_38 _ _) dX8_draw_2 ?_
  refine lv_ldc2 hx hb hown (hts (.constantLong RX8 243 (6364136223846793005)) (List.mem_of_getElem? (i := 2) rfl)) dX8_draw_5 ?_
  refine lv_lmul hx hb dX8_draw_8 ?_
  refine lv_ldc2 hx hb hown (hts (.constantLong RX8 245 (1442695040888963407)) (List.mem_of_getElem? (i := 3) rfl)) dX8_draw_9 ?_
  refine lv_ladd hx hb dX8_draw_12 ?_
  refine va_put (D := D) (ci := 7) (v := .long (((σ.2 0 38) * (6364136223846793005)) + (1442695040888963407))) (ty := .long) (C := RX8) (T := TX8) (N := 50) hx hb hts in_X8_draw_X8 tyX8 tyX8_ok nmX8 hown hK hP (hD _) hS 0 (wM_0 _ _ _ _ _) rfl 38 (by decide) (hts (.fieldLink RX8 239 "CallGraphsModel" "x" "J") (List.mem_of_getElem? (i := 1) rfl)) (fun _ h9 => h9) rfl (tyX8_ok 38 (by decide)) rfl rfl (Nat.le_of_ble_eq_true rfl) dX8_draw_13 (fun H locs hP _ hS => ?_)
  have hP := wM_p0_38 hP
  obtain ⟨s_13, es_13, hf⟩ := os_e hf
  rw [← es_13] at hP
  refine lv_aload_n hx hb dX8_draw_16 rfl (lv_at hl 0 rfl) ?_
  refine va_get (D := D) (ci := 7) (v := .long (s_13.2 0 38)) (C := RX8) (T := TX8) (N := 50) hx hb hts in_X8_draw_X8 hown hK hP 0 (wM_0 _ _ _ _ _) rfl 38 (by decide) (hts (.fieldLink RX8 239 "CallGraphsModel" "x" "J") (List.mem_of_getElem? (i := 1) rfl)) (fun _ h9 => h9) (fM_0_38 _ _) dX8_draw_17 ?_
  refine lv_bipush (v := 33) hx hb dX8_draw_20 (by decide) ?_
  refine lv_lushr (v := (jush (s_13.2 0 38) 33)) hx hb dX8_draw_22 rfl ?_
  refine lv_iload_n hx hb dX8_draw_23 rfl (lv_at hl 1 rfl) ?_
  refine lv_i2l (v := (v1.toInt64)) hx hb dX8_draw_24 rfl ?_
  obtain ⟨h_25, hf⟩ := oz_e hf
  refine lv_lrem hx hb dX8_draw_25 h_25 ?_
  refine lv_l2i (v := (((jush (s_13.2 0 38) 33) - (jush (s_13.2 0 38) 33) / (v1.toInt64) * (v1.toInt64)).toInt32)) hx hb dX8_draw_26 rfl ?_
  exact rt_i (wd := wM ad cI cJ cZ) hx hb hr hlk (Option.some.inj hf) hP hS dX8_draw_27
theorem hd_X8_draw : yX8_draw.cls = RX8 ∧ yX8_draw.cls ≠ "java/lang/invoke/MethodHandle" ∧ yX8_draw.cls ≠ "java/lang/invoke/VarHandle" ∧ (parseMethodDescriptor yX8_draw.desc).map (fun d => d.parameters.length) = some 1 := by decide +kernel
set_option maxHeartbeats 4000000 in
set_option maxRecDepth 100000 in
theorem c_X8_draw (l : Launch) (D : va_G) (ad : Nat → Nat) (cI cJ cZ : ClassId) (σ : SS) (v1 : Int32) {res : Int32 × SS} (hf : p_X8_draw_0 v1 σ = some res) : Met l yX8_draw wsX8_draw ({ frames := 0, cells := 0, slots := 0, locals := 0 } : Room) (PW D (tyw cI cJ cZ) (wM ad cI cJ cZ σ) [.ref (ad 0), .int v1]) (va_Qi (fun (r : Int32) (u : SS) => (r, u) = res) (fun u t => va_P D vwCl (wM ad cI cJ cZ u) t.heap) (aM ad)) 0 0 (aM ad) := by
  refine Met.ofW (cc := cX8_draw) (maxL := 2) (ret := (some .int)) (by decide) rfl ?_
  intro p e s m args below meth c s₁ B hml hv
  obtain ⟨rfl, hP, hK, hD0⟩ := hv
  have hD : ∀ σ, va_D (aM ad) (wM ad cI cJ cZ σ) := fun σ => wd_D hD0 (wM_map _ _ _ _ _) (wM_map _ _ _ _ _)
  have hm : mx p s m _ meth c cX8_draw 2 (some .int) wsX8_draw RX8 := ⟨B.exec, B.bytes, B.returns, hml, findClass_of_methodNamed B.named, atoms_spec (ws := wsX8_draw) B.pre, B.notSynchronized⟩
  have hl := lv_entry ([.ref (ad 0), .int v1]) (n := 2) (Nat.le_of_ble_eq_true rfl)
  rw [lg_entry_eq]
  generalize (lg_sl ([.ref (ad 0), .int v1]) ++ List.replicate (2 - (lg_sl ([.ref (ad 0), .int v1])).length) Slot.unset).toArray = ls at hl ⊢
  exact w_X8_draw_0 hm ⟨Nat.le_refl _, Nat.le_refl _⟩ hK hD v1 σ hf _ _ _ hP va_S.rf hl
/-! CallGraphsModel.push(III)V -/
theorem in_X8_push_X8 : ∀ w ∈ u_ws RX8 TX8 50, w ∈ wsX8_push := fun w h => List.mem_cons_of_mem _ (List.mem_append_right _ h)
def p_X8_push_0 (v1 : Int32) (v2 : Int32) (v3 : Int32) (σ : SS) : Option (SS) := oi (σ.1 0 37) 1000 (os (sI σ 28 ((σ.1 0 37).toNatClampNeg) v1) (fun s_9 => oi (s_9.1 0 37) 1000 (os (sI s_9 29 ((s_9.1 0 37).toNatClampNeg) v2) (fun s_19 => oi (s_19.1 0 37) 1000 (os (sI s_19 30 ((s_19.1 0 37).toNatClampNeg) 0) (fun s_29 => oi (s_29.1 0 37) 1000 (os (sI s_29 31 ((s_29.1 0 37).toNatClampNeg) v3) (fun s_39 => os (sI s_39 0 37 ((s_39.1 0 37) + 1)) (fun s_47 => some s_47)))))))))
set_option maxHeartbeats 4000000 in
set_option maxRecDepth 100000 in
theorem w_X8_push_0 {p : Program} {l : Launch} {e : Env} {R : Room} {s : State} {m : MethodId} {args : Array Value} {below : List Frame} {meth : Method} {c : Code} {D : va_G} {ad : Nat → Nat} {cI cJ cZ : ClassId} {res : SS} (hm : mx p s m args meth c cX8_push 4 none wsX8_push RX8) (hR : 0 ≤ R.frames ∧ 0 ≤ R.locals) (hK : va_K D vwCl (tyw cI cJ cZ) s) (hD : ∀ σ, va_D (aM ad) (wM ad cI cJ cZ σ)) (v1 : Int32) (v2 : Int32) (v3 : Int32) (σ : SS) (hf : p_X8_push_0 v1 v2 v3 σ = some res) (H : Heap) (locs : List Loc) (ls : Array Slot) (hP : va_P D vwCl (wM ad cI cJ cZ σ) H) (hS : va_S (aM ad) s.heap H locs) (hl : lv_has ls 4 [(0, .ref (ad 0)), (1, .int v1), (2, .int v2), (3, .int v3)]) : W p l e R s m args below meth c H locs 0 0 (MQ below (va_Qv (fun (u : SS) => u = res) (fun u t => va_P D vwCl (wM ad cI cJ cZ u) t.heap) (aM ad)) args s 0 0 (aM ad)) (F0 m 0 ls []) := by
  obtain ⟨hx, hb, hr, hml, hown, hts, hlk⟩ := id hm
  unfold p_X8_push_0 at hf
  refine lv_aload_n hx hb dX8_push_0 rfl (lv_at hl 0 rfl) ?_
  refine va_get (D := D) (ci := 7) (v := .ref (ad 28)) (C := RX8) (T := TX8) (N := 50) hx hb hts in_X8_push_X8 hown hK hP 0 (wM_0 _ _ _ _ _) rfl 33 (by decide) (hts (.fieldLink RX8 92 "CallGraphsModel" "todo" "[I") (List.mem_of_getElem? (i := 1) rfl)) (fun _ h9 => h9) (fM_0_33 _ _) dX8_push_1 ?_
  refine lv_aload_n hx hb dX8_push_4 rfl (lv_at hl 0 rfl) ?_
  refine va_get (D := D) (ci := 7) (v := .int (σ.1 0 37)) (C := RX8) (T := TX8) (N := 50) hx hb hts in_X8_push_X8 hown hK hP 0 (wM_0 _ _ _ _ _) rfl 37 (by decide) (hts (.fieldLink RX8 247 "CallGraphsModel" "deep" "I") (List.mem_of_getElem? (i := 2) rfl)) (fun _ h9 => h9) (fM_0_37 _ _) dX8_push_5 ?_
  refine lv_iload_n hx hb dX8_push_8 rfl (lv_at hl 1 rfl) ?_
  obtain ⟨h_9, hf⟩ := oi_e hf
  refine va_iast hx hb hK hP (hD _) hS 28 0 (wM_28 _ _ _ _ _) rfl h_9 dX8_push_9 (fun H locs hP _ hS => ?_)
  have hP := wM_s28 hP
  obtain ⟨s_9, es_9, hf⟩ := os_e hf
  rw [← es_9] at hP
  refine lv_aload_n hx hb dX8_push_10 rfl (lv_at hl 0 rfl) ?_
  refine va_get (D := D) (ci := 7) (v := .ref (ad 29)) (C := RX8) (T := TX8) (N := 50) hx hb hts in_X8_push_X8 hown hK hP 0 (wM_0 _ _ _ _ _) rfl 34 (by decide) (hts (.fieldLink RX8 95 "CallGraphsModel" "what1" "[I") (List.mem_of_getElem? (i := 3) rfl)) (fun _ h9 => h9) (fM_0_34 _ _) dX8_push_11 ?_
  refine lv_aload_n hx hb dX8_push_14 rfl (lv_at hl 0 rfl) ?_
  refine va_get (D := D) (ci := 7) (v := .int (s_9.1 0 37)) (C := RX8) (T := TX8) (N := 50) hx hb hts in_X8_push_X8 hown hK hP 0 (wM_0 _ _ _ _ _) rfl 37 (by decide) (hts (.fieldLink RX8 247 "CallGraphsModel" "deep" "I") (List.mem_of_getElem? (i := 2) rfl)) (fun _ h9 => h9) (fM_0_37 _ _) dX8_push_15 ?_
  refine lv_iload_n hx hb dX8_push_18 rfl (lv_at hl 2 rfl) ?_
  obtain ⟨h_19, hf⟩ := oi_e hf
  refine va_iast hx hb hK hP (hD _) hS 29 0 (wM_29 _ _ _ _ _) rfl h_19 dX8_push_19 (fun H locs hP _ hS => ?_)
  have hP := wM_s29 hP
  obtain ⟨s_19, es_19, hf⟩ := os_e hf
  rw [← es_19] at hP
  refine lv_aload_n hx hb dX8_push_20 rfl (lv_at hl 0 rfl) ?_
  refine va_get (D := D) (ci := 7) (v := .ref (ad 30)) (C := RX8) (T := TX8) (N := 50) hx hb hts in_X8_push_X8 hown hK hP 0 (wM_0 _ _ _ _ _) rfl 35 (by decide) (hts (.fieldLink RX8 98 "CallGraphsModel" "what2" "[I") (List.mem_of_getElem? (i := 4) rfl)) (fun _ h9 => h9) (fM_0_35 _ _) dX8_push_21 ?_
  refine lv_aload_n hx hb dX8_push_24 rfl (lv_at hl 0 rfl) ?_
  refine va_get (D := D) (ci := 7) (v := .int (s_19.1 0 37)) (C := RX8) (T := TX8) (N := 50) hx hb hts in_X8_push_X8 hown hK hP 0 (wM_0 _ _ _ _ _) rfl 37 (by decide) (hts (.fieldLink RX8 247 "CallGraphsModel" "deep" "I") (List.mem_of_getElem? (i := 2) rfl)) (fun _ h9 => h9) (fM_0_37 _ _) dX8_push_25 ?_
  refine lv_iconst (v := 0) hx hb dX8_push_28 (by decide) ?_
  obtain ⟨h_29, hf⟩ := oi_e hf
  refine va_iast hx hb hK hP (hD _) hS 30 0 (wM_30 _ _ _ _ _) rfl h_29 dX8_push_29 (fun H locs hP _ hS => ?_)
  have hP := wM_s30 hP
  obtain ⟨s_29, es_29, hf⟩ := os_e hf
  rw [← es_29] at hP
  refine lv_aload_n hx hb dX8_push_30 rfl (lv_at hl 0 rfl) ?_
  refine va_get (D := D) (ci := 7) (v := .ref (ad 31)) (C := RX8) (T := TX8) (N := 50) hx hb hts in_X8_push_X8 hown hK hP 0 (wM_0 _ _ _ _ _) rfl 36 (by decide) (hts (.fieldLink RX8 101 "CallGraphsModel" "why" "[I") (List.mem_of_getElem? (i := 5) rfl)) (fun _ h9 => h9) (fM_0_36 _ _) dX8_push_31 ?_
  refine lv_aload_n hx hb dX8_push_34 rfl (lv_at hl 0 rfl) ?_
  refine va_get (D := D) (ci := 7) (v := .int (s_29.1 0 37)) (C := RX8) (T := TX8) (N := 50) hx hb hts in_X8_push_X8 hown hK hP 0 (wM_0 _ _ _ _ _) rfl 37 (by decide) (hts (.fieldLink RX8 247 "CallGraphsModel" "deep" "I") (List.mem_of_getElem? (i := 2) rfl)) (fun _ h9 => h9) (fM_0_37 _ _) dX8_push_35 ?_
  refine lv_iload_n hx hb dX8_push_38 rfl (lv_at hl 3 rfl) ?_
  obtain ⟨h_39, hf⟩ := oi_e hf
  refine va_iast hx hb hK hP (hD _) hS 31 0 (wM_31 _ _ _ _ _) rfl h_39 dX8_push_39 (fun H locs hP _ hS => ?_)
  have hP := wM_s31 hP
  obtain ⟨s_39, es_39, hf⟩ := os_e hf
  rw [← es_39] at hP
  refine lv_aload_n hx hb dX8_push_40 rfl (lv_at hl 0 rfl) ?_
  refine lv_dup hx hb dX8_push_41 rfl ?_
  refine va_get (D := D) (ci := 7) (v := .int (s_39.1 0 37)) (C := RX8) (T := TX8) (N := 50) hx hb hts in_X8_push_X8 hown hK hP 0 (wM_0 _ _ _ _ _) rfl 37 (by decide) (hts (.fieldLink RX8 247 "CallGraphsModel" "deep" "I") (List.mem_of_getElem? (i := 2) rfl)) (fun _ h9 => h9) (fM_0_37 _ _) dX8_push_42 ?_
  refine lv_iconst (v := 1) hx hb dX8_push_45 (by decide) ?_
  refine lv_iadd hx hb dX8_push_46 ?_
  refine va_put (D := D) (ci := 7) (v := .int ((s_39.1 0 37) + 1)) (ty := .int) (C := RX8) (T := TX8) (N := 50) hx hb hts in_X8_push_X8 tyX8 tyX8_ok nmX8 hown hK hP (hD _) hS 0 (wM_0 _ _ _ _ _) rfl 37 (by decide) (hts (.fieldLink RX8 247 "CallGraphsModel" "deep" "I") (List.mem_of_getElem? (i := 2) rfl)) (fun _ h9 => h9) rfl (tyX8_ok 37 (by decide)) rfl rfl (Nat.le_of_ble_eq_true rfl) dX8_push_47 (fun H locs hP _ hS => ?_)
  have hP := wM_p0_37 hP
  obtain ⟨s_47, es_47, hf⟩ := os_e hf
  rw [← es_47] at hP
  exact rt_v (wd := wM ad cI cJ cZ) hx hb hr hlk (Option.some.inj hf) hP hS dX8_push_50
theorem hd_X8_push : yX8_push.cls = RX8 ∧ yX8_push.cls ≠ "java/lang/invoke/MethodHandle" ∧ yX8_push.cls ≠ "java/lang/invoke/VarHandle" ∧ (parseMethodDescriptor yX8_push.desc).map (fun d => d.parameters.length) = some 3 := by decide +kernel
set_option maxHeartbeats 4000000 in
set_option maxRecDepth 100000 in
theorem c_X8_push (l : Launch) (D : va_G) (ad : Nat → Nat) (cI cJ cZ : ClassId) (σ : SS) (v1 : Int32) (v2 : Int32) (v3 : Int32) {res : SS} (hf : p_X8_push_0 v1 v2 v3 σ = some res) : Met l yX8_push wsX8_push ({ frames := 0, cells := 0, slots := 0, locals := 0 } : Room) (PW D (tyw cI cJ cZ) (wM ad cI cJ cZ σ) [.ref (ad 0), .int v1, .int v2, .int v3]) (va_Qv (fun (u : SS) => u = res) (fun u t => va_P D vwCl (wM ad cI cJ cZ u) t.heap) (aM ad)) 0 0 (aM ad) := by
  refine Met.ofW (cc := cX8_push) (maxL := 4) (ret := none) (by decide) rfl ?_
  intro p e s m args below meth c s₁ B hml hv
  obtain ⟨rfl, hP, hK, hD0⟩ := hv
  have hD : ∀ σ, va_D (aM ad) (wM ad cI cJ cZ σ) := fun σ => wd_D hD0 (wM_map _ _ _ _ _) (wM_map _ _ _ _ _)
  have hm : mx p s m _ meth c cX8_push 4 none wsX8_push RX8 := ⟨B.exec, B.bytes, B.returns, hml, findClass_of_methodNamed B.named, atoms_spec (ws := wsX8_push) B.pre, B.notSynchronized⟩
  have hl := lv_entry ([.ref (ad 0), .int v1, .int v2, .int v3]) (n := 4) (Nat.le_of_ble_eq_true rfl)
  rw [lg_entry_eq]
  generalize (lg_sl ([.ref (ad 0), .int v1, .int v2, .int v3]) ++ List.replicate (4 - (lg_sl ([.ref (ad 0), .int v1, .int v2, .int v3])).length) Slot.unset).toArray = ls at hl ⊢
  exact w_X8_push_0 hm ⟨Nat.le_refl _, Nat.le_refl _⟩ hK hD v1 v2 v3 σ hf _ _ _ hP va_S.rf hl
/-! CallGraphsModel.runNow(II)V -/
theorem in_X8_runNow_X8 : ∀ w ∈ u_ws RX8 TX8 50, w ∈ wsX8_runNow := fun w h => List.mem_cons_of_mem _ (List.mem_append_right _ h)
def p_X8_runNow_63 (σ : SS) : Option (SS) := os (sI σ 0 41 ((σ.1 0 41) + 1)) (fun s_70 => some s_70)
set_option maxHeartbeats 4000000 in
set_option maxRecDepth 100000 in
theorem w_X8_runNow_63 {p : Program} {l : Launch} {e : Env} {R : Room} {s : State} {m : MethodId} {args : Array Value} {below : List Frame} {meth : Method} {c : Code} {D : va_G} {ad : Nat → Nat} {cI cJ cZ : ClassId} {res : SS} (hm : mx p s m args meth c cX8_runNow 3 none wsX8_runNow RX8) (hR : 1 ≤ R.frames ∧ 23 ≤ R.locals) (hK : va_K D vwCl (tyw cI cJ cZ) s) (hD : ∀ σ, va_D (aM ad) (wM ad cI cJ cZ σ)) (σ : SS) (hf : p_X8_runNow_63 σ = some res) (H : Heap) (locs : List Loc) (ls : Array Slot) (hP : va_P D vwCl (wM ad cI cJ cZ σ) H) (hS : va_S (aM ad) s.heap H locs) (hl : lv_has ls 3 [(0, .ref (ad 0))]) : W p l e R s m args below meth c H locs 0 0 (MQ below (va_Qv (fun (u : SS) => u = res) (fun u t => va_P D vwCl (wM ad cI cJ cZ u) t.heap) (aM ad)) args s 0 0 (aM ad)) (F0 m 63 ls []) := by
  obtain ⟨hx, hb, hr, hml, hown, hts, hlk⟩ := id hm
  unfold p_X8_runNow_63 at hf
  refine lv_aload_n hx hb dX8_runNow_63 rfl (lv_at hl 0 rfl) ?_
  refine lv_dup hx hb dX8_runNow_64 rfl ?_
  refine va_get (D := D) (ci := 7) (v := .int (σ.1 0 41)) (C := RX8) (T := TX8) (N := 50) hx hb hts in_X8_runNow_X8 hown hK hP 0 (wM_0 _ _ _ _ _) rfl 41 (by decide) (hts (.fieldLink RX8 259 "CallGraphsModel" "leftOut" "I") (List.mem_of_getElem? (i := 6) rfl)) (fun _ h9 => h9) (fM_0_41 _ _) dX8_runNow_65 ?_
  refine lv_iconst (v := 1) hx hb dX8_runNow_68 (by decide) ?_
  refine lv_iadd hx hb dX8_runNow_69 ?_
  refine va_put (D := D) (ci := 7) (v := .int ((σ.1 0 41) + 1)) (ty := .int) (C := RX8) (T := TX8) (N := 50) hx hb hts in_X8_runNow_X8 tyX8 tyX8_ok nmX8 hown hK hP (hD _) hS 0 (wM_0 _ _ _ _ _) rfl 41 (by decide) (hts (.fieldLink RX8 259 "CallGraphsModel" "leftOut" "I") (List.mem_of_getElem? (i := 6) rfl)) (fun _ h9 => h9) rfl (tyX8_ok 41 (by decide)) rfl rfl (Nat.le_of_ble_eq_true rfl) dX8_runNow_70 (fun H locs hP _ hS => ?_)
  have hP := wM_p0_41 hP
  obtain ⟨s_70, es_70, hf⟩ := os_e hf
  rw [← es_70] at hP
  exact rt_v (wd := wM ad cI cJ cZ) hx hb hr hlk (Option.some.inj hf) hP hS dX8_runNow_73
def p_X8_runNow_41 (v1 : Int32) (t0 : Int32) (σ : SS) : Option (SS) := ob t0 (os (sI σ 0 43 t0) (fun s_41 => if (s_41.1 0 40) = 12 then p_X8_runNow_63 s_41 else if (s_41.1 0 39) = 300 then p_X8_runNow_63 s_41 else os (sI s_41 0 39 ((s_41.1 0 39) + 1)) (fun s_81 => os (sI s_81 0 40 ((s_81.1 0 40) + 1)) (fun s_91 => oi v1 48 (os (sI s_91 32 (v1.toNatClampNeg) 1) (fun s_100 => os (sI s_100 0 42 v1) (fun s_103 => oc (p_X8_push_0 0 v1 (-1) s_103) (fun r_110 => some r_110))))))))
set_option maxHeartbeats 4000000 in
set_option maxRecDepth 100000 in
theorem w_X8_runNow_41 {p : Program} {l : Launch} {e : Env} {R : Room} {s : State} {m : MethodId} {args : Array Value} {below : List Frame} {meth : Method} {c : Code} {D : va_G} {ad : Nat → Nat} {cI cJ cZ : ClassId} {res : SS} (hm : mx p s m args meth c cX8_runNow 3 none wsX8_runNow RX8) (hR : 1 ≤ R.frames ∧ 23 ≤ R.locals) (hK : va_K D vwCl (tyw cI cJ cZ) s) (hD : ∀ σ, va_D (aM ad) (wM ad cI cJ cZ σ)) (v1 : Int32) (t0 : Int32) (σ : SS) (hf : p_X8_runNow_41 v1 t0 σ = some res) (H : Heap) (locs : List Loc) (ls : Array Slot) (hP : va_P D vwCl (wM ad cI cJ cZ σ) H) (hS : va_S (aM ad) s.heap H locs) (hl : lv_has ls 3 [(0, .ref (ad 0)), (1, .int v1)]) : W p l e R s m args below meth c H locs 0 0 (MQ below (va_Qv (fun (u : SS) => u = res) (fun u t => va_P D vwCl (wM ad cI cJ cZ u) t.heap) (aM ad)) args s 0 0 (aM ad)) (F0 m 41 ls [.int t0, .ref (ad 0)]) := by
  obtain ⟨hx, hb, hr, hml, hown, hts, hlk⟩ := id hm
  unfold p_X8_runNow_41 at hf
  obtain ⟨h_41, hf⟩ := ob_e hf
  refine va_put (D := D) (ci := 7) (v := .int t0) (ty := .boolean) (C := RX8) (T := TX8) (N := 50) hx hb hts in_X8_runNow_X8 tyX8 tyX8_ok nmX8 hown hK hP (hD _) hS 0 (wM_0 _ _ _ _ _) rfl 43 (by decide) (hts (.fieldLink RX8 250 "CallGraphsModel" "isRight" "Z") (List.mem_of_getElem? (i := 1) rfl)) (fun _ h9 => h9) rfl (tyX8_ok 43 (by decide)) (nb_n h_41) (nb_f h_41) (Nat.le_of_ble_eq_true rfl) dX8_runNow_41 (fun H locs hP _ hS => ?_)
  have hP := wM_p0_43 hP
  obtain ⟨s_41, es_41, hf⟩ := os_e hf
  rw [← es_41] at hP
  refine lv_aload_n hx hb dX8_runNow_44 rfl (lv_at hl 0 rfl) ?_
  refine va_get (D := D) (ci := 7) (v := .int (s_41.1 0 40)) (C := RX8) (T := TX8) (N := 50) hx hb hts in_X8_runNow_X8 hown hK hP 0 (wM_0 _ _ _ _ _) rfl 40 (by decide) (hts (.fieldLink RX8 253 "CallGraphsModel" "running" "I") (List.mem_of_getElem? (i := 4) rfl)) (fun _ h9 => h9) (fM_0_40 _ _) dX8_runNow_45 ?_
  refine lv_bipush (v := 12) hx hb dX8_runNow_48 (by decide) ?_
  refine lv_icmp_eq (tgt := 63) hx hb dX8_runNow_50 (by decide) (fun c_50 => ?_) (fun c_50 => ?_)
  · rw [if_pos c_50] at hf
    exact w_X8_runNow_63 hm hR hK hD s_41 hf _ _ _ hP hS (lv_sub hl [0] rfl)
  · rw [if_neg c_50] at hf
    refine lv_aload_n hx hb dX8_runNow_53 rfl (lv_at hl 0 rfl) ?_
    refine va_get (D := D) (ci := 7) (v := .int (s_41.1 0 39)) (C := RX8) (T := TX8) (N := 50) hx hb hts in_X8_runNow_X8 hown hK hP 0 (wM_0 _ _ _ _ _) rfl 39 (by decide) (hts (.fieldLink RX8 256 "CallGraphsModel" "steps" "I") (List.mem_of_getElem? (i := 5) rfl)) (fun _ h9 => h9) (fM_0_39 _ _) dX8_runNow_54 ?_
    refine lv_sipush (v := 300) hx hb dX8_runNow_57 (by decide) ?_
    refine lv_icmp_ne (tgt := 74) hx hb dX8_runNow_60 (by decide) (fun c_60 => ?_) (fun c_60 => ?_)
    · rw [if_neg c_60] at hf
      refine lv_aload_n hx hb dX8_runNow_74 rfl (lv_at hl 0 rfl) ?_
      refine lv_dup hx hb dX8_runNow_75 rfl ?_
      refine va_get (D := D) (ci := 7) (v := .int (s_41.1 0 39)) (C := RX8) (T := TX8) (N := 50) hx hb hts in_X8_runNow_X8 hown hK hP 0 (wM_0 _ _ _ _ _) rfl 39 (by decide) (hts (.fieldLink RX8 256 "CallGraphsModel" "steps" "I") (List.mem_of_getElem? (i := 5) rfl)) (fun _ h9 => h9) (fM_0_39 _ _) dX8_runNow_76 ?_
      refine lv_iconst (v := 1) hx hb dX8_runNow_79 (by decide) ?_
      refine lv_iadd hx hb dX8_runNow_80 ?_
      refine va_put (D := D) (ci := 7) (v := .int ((s_41.1 0 39) + 1)) (ty := .int) (C := RX8) (T := TX8) (N := 50) hx hb hts in_X8_runNow_X8 tyX8 tyX8_ok nmX8 hown hK hP (hD _) hS 0 (wM_0 _ _ _ _ _) rfl 39 (by decide) (hts (.fieldLink RX8 256 "CallGraphsModel" "steps" "I") (List.mem_of_getElem? (i := 5) rfl)) (fun _ h9 => h9) rfl (tyX8_ok 39 (by decide)) rfl rfl (Nat.le_of_ble_eq_true rfl) dX8_runNow_81 (fun H locs hP _ hS => ?_)
      have hP := wM_p0_39 hP
      obtain ⟨s_81, es_81, hf⟩ := os_e hf
      rw [← es_81] at hP
      refine lv_aload_n hx hb dX8_runNow_84 rfl (lv_at hl 0 rfl) ?_
      refine lv_dup hx hb dX8_runNow_85 rfl ?_
      refine va_get (D := D) (ci := 7) (v := .int (s_81.1 0 40)) (C := RX8) (T := TX8) (N := 50) hx hb hts in_X8_runNow_X8 hown hK hP 0 (wM_0 _ _ _ _ _) rfl 40 (by decide) (hts (.fieldLink RX8 253 "CallGraphsModel" "running" "I") (List.mem_of_getElem? (i := 4) rfl)) (fun _ h9 => h9) (fM_0_40 _ _) dX8_runNow_86 ?_
      refine lv_iconst (v := 1) hx hb dX8_runNow_89 (by decide) ?_
      refine lv_iadd hx hb dX8_runNow_90 ?_
      refine va_put (D := D) (ci := 7) (v := .int ((s_81.1 0 40) + 1)) (ty := .int) (C := RX8) (T := TX8) (N := 50) hx hb hts in_X8_runNow_X8 tyX8 tyX8_ok nmX8 hown hK hP (hD _) hS 0 (wM_0 _ _ _ _ _) rfl 40 (by decide) (hts (.fieldLink RX8 253 "CallGraphsModel" "running" "I") (List.mem_of_getElem? (i := 4) rfl)) (fun _ h9 => h9) rfl (tyX8_ok 40 (by decide)) rfl rfl (Nat.le_of_ble_eq_true rfl) dX8_runNow_91 (fun H locs hP _ hS => ?_)
      have hP := wM_p0_40 hP
      obtain ⟨s_91, es_91, hf⟩ := os_e hf
      rw [← es_91] at hP
      refine lv_aload_n hx hb dX8_runNow_94 rfl (lv_at hl 0 rfl) ?_
      refine va_get (D := D) (ci := 7) (v := .ref (ad 32)) (C := RX8) (T := TX8) (N := 50) hx hb hts in_X8_runNow_X8 hown hK hP 0 (wM_0 _ _ _ _ _) rfl 44 (by decide) (hts (.fieldLink RX8 104 "CallGraphsModel" "ran" "[Z") (List.mem_of_getElem? (i := 7) rfl)) (fun _ h9 => h9) (fM_0_44 _ _) dX8_runNow_95 ?_
      refine lv_iload_n hx hb dX8_runNow_98 rfl (lv_at hl 1 rfl) ?_
      refine lv_iconst (v := 1) hx hb dX8_runNow_99 (by decide) ?_
      obtain ⟨h_100, hf⟩ := oi_e hf
      refine va_zast hx hb hK hP (hD _) hS 32 2 (wM_32 _ _ _ _ _) rfl h_100 dX8_runNow_100 (fun H locs hP _ hS => ?_)
      rw [nb_a (Or.inr rfl)] at hP
      have hP := wM_s32 hP
      obtain ⟨s_100, es_100, hf⟩ := os_e hf
      rw [← es_100] at hP
      refine lv_aload_n hx hb dX8_runNow_101 rfl (lv_at hl 0 rfl) ?_
      refine lv_iload_n hx hb dX8_runNow_102 rfl (lv_at hl 1 rfl) ?_
      refine va_put (D := D) (ci := 7) (v := .int v1) (ty := .int) (C := RX8) (T := TX8) (N := 50) hx hb hts in_X8_runNow_X8 tyX8 tyX8_ok nmX8 hown hK hP (hD _) hS 0 (wM_0 _ _ _ _ _) rfl 42 (by decide) (hts (.fieldLink RX8 262 "CallGraphsModel" "latest" "I") (List.mem_of_getElem? (i := 8) rfl)) (fun _ h9 => h9) rfl (tyX8_ok 42 (by decide)) rfl rfl (Nat.le_of_ble_eq_true rfl) dX8_runNow_103 (fun H locs hP _ hS => ?_)
      have hP := wM_p0_42 hP
      obtain ⟨s_103, es_103, hf⟩ := os_e hf
      rw [← es_103] at hP
      refine lv_aload_n hx hb dX8_runNow_106 rfl (lv_at hl 0 rfl) ?_
      refine lv_iconst (v := 0) hx hb dX8_runNow_107 (by decide) ?_
      refine lv_iload_n hx hb dX8_runNow_108 rfl (lv_at hl 1 rfl) ?_
      refine lv_iconst (v := (-1)) hx hb dX8_runNow_109 (by decide) ?_
      obtain ⟨r_110, hg_110, hf⟩ := oc_e hf
      refine mV_wv (wd := wM ad cI cJ cZ) (σ := s_103) (As := [.int 0, .int v1, .int (-1)]) (rest := []) ⟨hx, hb, hml, hown, hts⟩ hK hP hD hS (c_X8_push l D ad cI cJ cZ s_103 0 v1 (-1) hg_110) (cwV 3 hts gX8_runNow_X8_push rfl rfl rfl hd_X8_push ⟨Nat.le_trans (Nat.le_of_ble_eq_true rfl) hR.1, Nat.le_trans (Nat.le_of_ble_eq_true rfl) hR.2⟩) rfl (wM_0 _ _ _ _ _) rfl hl.1 rfl (Nat.le_of_ble_eq_true rfl) dX8_runNow_110 (fun H locs hP hS => ?_)
      exact rt_v (wd := wM ad cI cJ cZ) hx hb hr hlk (Option.some.inj hf) hP hS dX8_runNow_113
    · rw [if_pos c_60] at hf
      exact w_X8_runNow_63 hm hR hK hD s_41 hf _ _ _ hP hS (lv_sub hl [0] rfl)
def p_X8_runNow_36 (v1 : Int32) (σ : SS) : Option (SS) := p_X8_runNow_41 v1 1 σ
set_option maxHeartbeats 4000000 in
set_option maxRecDepth 100000 in
theorem w_X8_runNow_36 {p : Program} {l : Launch} {e : Env} {R : Room} {s : State} {m : MethodId} {args : Array Value} {below : List Frame} {meth : Method} {c : Code} {D : va_G} {ad : Nat → Nat} {cI cJ cZ : ClassId} {res : SS} (hm : mx p s m args meth c cX8_runNow 3 none wsX8_runNow RX8) (hR : 1 ≤ R.frames ∧ 23 ≤ R.locals) (hK : va_K D vwCl (tyw cI cJ cZ) s) (hD : ∀ σ, va_D (aM ad) (wM ad cI cJ cZ σ)) (v1 : Int32) (σ : SS) (hf : p_X8_runNow_36 v1 σ = some res) (H : Heap) (locs : List Loc) (ls : Array Slot) (hP : va_P D vwCl (wM ad cI cJ cZ σ) H) (hS : va_S (aM ad) s.heap H locs) (hl : lv_has ls 3 [(0, .ref (ad 0)), (1, .int v1)]) : W p l e R s m args below meth c H locs 0 0 (MQ below (va_Qv (fun (u : SS) => u = res) (fun u t => va_P D vwCl (wM ad cI cJ cZ u) t.heap) (aM ad)) args s 0 0 (aM ad)) (F0 m 36 ls [.ref (ad 0)]) := by
  obtain ⟨hx, hb, hr, hml, hown, hts, hlk⟩ := id hm
  unfold p_X8_runNow_36 at hf
  refine lv_iconst (v := 1) hx hb dX8_runNow_36 (by decide) ?_
  refine lv_goto (tgt := 41) hx hb dX8_runNow_37 (by decide) ?_
  exact w_X8_runNow_41 hm hR hK hD v1 1 σ hf _ _ _ hP hS (lv_sub hl [0, 1] rfl)
def p_X8_runNow_40 (v1 : Int32) (σ : SS) : Option (SS) := p_X8_runNow_41 v1 0 σ
set_option maxHeartbeats 4000000 in
set_option maxRecDepth 100000 in
theorem w_X8_runNow_40 {p : Program} {l : Launch} {e : Env} {R : Room} {s : State} {m : MethodId} {args : Array Value} {below : List Frame} {meth : Method} {c : Code} {D : va_G} {ad : Nat → Nat} {cI cJ cZ : ClassId} {res : SS} (hm : mx p s m args meth c cX8_runNow 3 none wsX8_runNow RX8) (hR : 1 ≤ R.frames ∧ 23 ≤ R.locals) (hK : va_K D vwCl (tyw cI cJ cZ) s) (hD : ∀ σ, va_D (aM ad) (wM ad cI cJ cZ σ)) (v1 : Int32) (σ : SS) (hf : p_X8_runNow_40 v1 σ = some res) (H : Heap) (locs : List Loc) (ls : Array Slot) (hP : va_P D vwCl (wM ad cI cJ cZ σ) H) (hS : va_S (aM ad) s.heap H locs) (hl : lv_has ls 3 [(0, .ref (ad 0)), (1, .int v1)]) : W p l e R s m args below meth c H locs 0 0 (MQ below (va_Qv (fun (u : SS) => u = res) (fun u t => va_P D vwCl (wM ad cI cJ cZ u) t.heap) (aM ad)) args s 0 0 (aM ad)) (F0 m 40 ls [.ref (ad 0)]) := by
  obtain ⟨hx, hb, hr, hml, hown, hts, hlk⟩ := id hm
  unfold p_X8_runNow_40 at hf
  refine lv_iconst (v := 0) hx hb dX8_runNow_40 (by decide) ?_
  exact w_X8_runNow_41 hm hR hK hD v1 0 σ hf _ _ _ hP hS (lv_sub hl [0, 1] rfl)
def p_X8_runNow_0 (v1 : Int32) (v2 : Int32) (σ : SS) : Option (SS) := if (σ.1 0 43) = 0 then p_X8_runNow_40 v1 σ else oi v1 48 (if (σ.1 14 v1.toNatClampNeg) = 0 then p_X8_runNow_40 v1 σ else if v2 = (-1) then p_X8_runNow_36 v1 σ else oi ((48 * v2) + v1) 7680 (if (σ.1 18 ((48 * v2) + v1).toNatClampNeg) = 0 then p_X8_runNow_40 v1 σ else p_X8_runNow_36 v1 σ))
set_option maxHeartbeats 4000000 in
set_option maxRecDepth 100000 in
theorem w_X8_runNow_0 {p : Program} {l : Launch} {e : Env} {R : Room} {s : State} {m : MethodId} {args : Array Value} {below : List Frame} {meth : Method} {c : Code} {D : va_G} {ad : Nat → Nat} {cI cJ cZ : ClassId} {res : SS} (hm : mx p s m args meth c cX8_runNow 3 none wsX8_runNow RX8) (hR : 1 ≤ R.frames ∧ 23 ≤ R.locals) (hK : va_K D vwCl (tyw cI cJ cZ) s) (hD : ∀ σ, va_D (aM ad) (wM ad cI cJ cZ σ)) (v1 : Int32) (v2 : Int32) (σ : SS) (hf : p_X8_runNow_0 v1 v2 σ = some res) (H : Heap) (locs : List Loc) (ls : Array Slot) (hP : va_P D vwCl (wM ad cI cJ cZ σ) H) (hS : va_S (aM ad) s.heap H locs) (hl : lv_has ls 3 [(0, .ref (ad 0)), (1, .int v1), (2, .int v2)]) : W p l e R s m args below meth c H locs 0 0 (MQ below (va_Qv (fun (u : SS) => u = res) (fun u t => va_P D vwCl (wM ad cI cJ cZ u) t.heap) (aM ad)) args s 0 0 (aM ad)) (F0 m 0 ls []) := by
  obtain ⟨hx, hb, hr, hml, hown, hts, hlk⟩ := id hm
  unfold p_X8_runNow_0 at hf
  refine lv_aload_n hx hb dX8_runNow_0 rfl (lv_at hl 0 rfl) ?_
  refine lv_aload_n hx hb dX8_runNow_1 rfl (lv_at hl 0 rfl) ?_
  refine va_get (D := D) (ci := 7) (v := .int (σ.1 0 43)) (C := RX8) (T := TX8) (N := 50) hx hb hts in_X8_runNow_X8 hown hK hP 0 (wM_0 _ _ _ _ _) rfl 43 (by decide) (hts (.fieldLink RX8 250 "CallGraphsModel" "isRight" "Z") (List.mem_of_getElem? (i := 1) rfl)) (fun _ h9 => h9) (fM_0_43 _ _) dX8_runNow_2 ?_
  refine lv_if_eq (tgt := 40) hx hb dX8_runNow_5 (by decide) (fun c_5 => ?_) (fun c_5 => ?_)
  · rw [if_pos c_5] at hf
    exact w_X8_runNow_40 hm hR hK hD v1 σ hf _ _ _ hP hS (lv_sub hl [0, 1] rfl)
  · rw [if_neg c_5] at hf
    refine lv_aload_n hx hb dX8_runNow_8 rfl (lv_at hl 0 rfl) ?_
    refine va_get (D := D) (ci := 7) (v := .ref (ad 14)) (C := RX8) (T := TX8) (N := 50) hx hb hts in_X8_runNow_X8 hown hK hP 0 (wM_0 _ _ _ _ _) rfl 18 (by decide) (hts (.fieldLink RX8 50 "CallGraphsModel" "reached" "[Z") (List.mem_of_getElem? (i := 2) rfl)) (fun _ h9 => h9) (fM_0_18 _ _) dX8_runNow_9 ?_
    refine lv_iload_n hx hb dX8_runNow_12 rfl (lv_at hl 1 rfl) ?_
    obtain ⟨h_13, hf⟩ := oi_e hf
    refine va_zald hx hb hK hP 14 2 (wM_14 _ _ _ _ _) rfl h_13 dX8_runNow_13 ?_
    refine lv_if_eq (tgt := 40) hx hb dX8_runNow_14 (by decide) (fun c_14 => ?_) (fun c_14 => ?_)
    · rw [if_pos c_14] at hf
      exact w_X8_runNow_40 hm hR hK hD v1 σ hf _ _ _ hP hS (lv_sub hl [0, 1] rfl)
    · rw [if_neg c_14] at hf
      refine lv_iload_n hx hb dX8_runNow_17 rfl (lv_at hl 2 rfl) ?_
      refine lv_iconst (v := (-1)) hx hb dX8_runNow_18 (by decide) ?_
      refine lv_icmp_eq (tgt := 36) hx hb dX8_runNow_19 (by decide) (fun c_19 => ?_) (fun c_19 => ?_)
      · rw [if_pos c_19] at hf
        exact w_X8_runNow_36 hm hR hK hD v1 σ hf _ _ _ hP hS (lv_sub hl [0, 1] rfl)
      · rw [if_neg c_19] at hf
        refine lv_aload_n hx hb dX8_runNow_22 rfl (lv_at hl 0 rfl) ?_
        refine va_get (D := D) (ci := 7) (v := .ref (ad 18)) (C := RX8) (T := TX8) (N := 50) hx hb hts in_X8_runNow_X8 hown hK hP 0 (wM_0 _ _ _ _ _) rfl 22 (by decide) (hts (.fieldLink RX8 62 "CallGraphsModel" "calls" "[Z") (List.mem_of_getElem? (i := 3) rfl)) (fun _ h9 => h9) (fM_0_22 _ _) dX8_runNow_23 ?_
        refine lv_bipush (v := 48) hx hb dX8_runNow_26 (by decide) ?_
        refine lv_iload_n hx hb dX8_runNow_28 rfl (lv_at hl 2 rfl) ?_
        refine lv_imul hx hb dX8_runNow_29 ?_
        refine lv_iload_n hx hb dX8_runNow_30 rfl (lv_at hl 1 rfl) ?_
        refine lv_iadd hx hb dX8_runNow_31 ?_
        obtain ⟨h_32, hf⟩ := oi_e hf
        refine va_zald hx hb hK hP 18 2 (wM_18 _ _ _ _ _) rfl h_32 dX8_runNow_32 ?_
        refine lv_if_eq (tgt := 40) hx hb dX8_runNow_33 (by decide) (fun c_33 => ?_) (fun c_33 => ?_)
        · rw [if_pos c_33] at hf
          exact w_X8_runNow_40 hm hR hK hD v1 σ hf _ _ _ hP hS (lv_sub hl [0, 1] rfl)
        · rw [if_neg c_33] at hf
          exact w_X8_runNow_36 hm hR hK hD v1 σ hf _ _ _ hP hS (lv_sub hl [0, 1] rfl)
theorem hd_X8_runNow : yX8_runNow.cls = RX8 ∧ yX8_runNow.cls ≠ "java/lang/invoke/MethodHandle" ∧ yX8_runNow.cls ≠ "java/lang/invoke/VarHandle" ∧ (parseMethodDescriptor yX8_runNow.desc).map (fun d => d.parameters.length) = some 2 := by decide +kernel
set_option maxHeartbeats 4000000 in
set_option maxRecDepth 100000 in
theorem c_X8_runNow (l : Launch) (D : va_G) (ad : Nat → Nat) (cI cJ cZ : ClassId) (σ : SS) (v1 : Int32) (v2 : Int32) {res : SS} (hf : p_X8_runNow_0 v1 v2 σ = some res) : Met l yX8_runNow wsX8_runNow ({ frames := 1, cells := 0, slots := 0, locals := 23 } : Room) (PW D (tyw cI cJ cZ) (wM ad cI cJ cZ σ) [.ref (ad 0), .int v1, .int v2]) (va_Qv (fun (u : SS) => u = res) (fun u t => va_P D vwCl (wM ad cI cJ cZ u) t.heap) (aM ad)) 0 0 (aM ad) := by
  refine Met.ofW (cc := cX8_runNow) (maxL := 3) (ret := none) (by decide) rfl ?_
  intro p e s m args below meth c s₁ B hml hv
  obtain ⟨rfl, hP, hK, hD0⟩ := hv
  have hD : ∀ σ, va_D (aM ad) (wM ad cI cJ cZ σ) := fun σ => wd_D hD0 (wM_map _ _ _ _ _) (wM_map _ _ _ _ _)
  have hm : mx p s m _ meth c cX8_runNow 3 none wsX8_runNow RX8 := ⟨B.exec, B.bytes, B.returns, hml, findClass_of_methodNamed B.named, atoms_spec (ws := wsX8_runNow) B.pre, B.notSynchronized⟩
  have hl := lv_entry ([.ref (ad 0), .int v1, .int v2]) (n := 3) (Nat.le_of_ble_eq_true rfl)
  rw [lg_entry_eq]
  generalize (lg_sl ([.ref (ad 0), .int v1, .int v2]) ++ List.replicate (3 - (lg_sl ([.ref (ad 0), .int v1, .int v2])).length) Slot.unset).toArray = ls at hl ⊢
  exact w_X8_runNow_0 hm ⟨Nat.le_refl _, Nat.le_refl _⟩ hK hD v1 v2 σ hf _ _ _ hP va_S.rf hl
/-! CallGraphsModel.beginNow(II)V -/
theorem in_X8_beginNow_X8 : ∀ w ∈ u_ws RX8 TX8 50, w ∈ wsX8_beginNow := fun w h => List.mem_cons_of_mem _ (List.mem_append_right _ h)
def p_X8_beginNow_122 (k79 : Int32 → Int32 → Int32 → SS → Option (SS)) (v1 : Int32) (v2 : Int32) (v4 : Int32) (σ : SS) : Option (SS) := k79 v1 v2 (v4 + (-1)) σ
set_option maxHeartbeats 4000000 in
set_option maxRecDepth 100000 in
theorem w_X8_beginNow_122 {p : Program} {l : Launch} {e : Env} {R : Room} {s : State} {m : MethodId} {args : Array Value} {below : List Frame} {meth : Method} {c : Code} {D : va_G} {ad : Nat → Nat} {cI cJ cZ : ClassId} {res : SS} (hm : mx p s m args meth c cX8_beginNow 5 none wsX8_beginNow RX8) (hR : 2 ≤ R.frames ∧ 47 ≤ R.locals) (hK : va_K D vwCl (tyw cI cJ cZ) s) (hD : ∀ σ, va_D (aM ad) (wM ad cI cJ cZ σ)) (k79 : Int32 → Int32 → Int32 → SS → Option (SS)) (hk79 : ∀ (v1 : Int32) (v2 : Int32) (v4 : Int32) (σ : SS), k79 v1 v2 v4 σ = some res → ∀ (H : Heap) (locs : List Loc) (ls : Array Slot), va_P D vwCl (wM ad cI cJ cZ σ) H → va_S (aM ad) s.heap H locs → lv_has ls 5 [(0, .ref (ad 0)), (1, .int v1), (2, .int v2), (4, .int v4)] → W p l e R s m args below meth c H locs 0 0 (MQ below (va_Qv (fun (u : SS) => u = res) (fun u t => va_P D vwCl (wM ad cI cJ cZ u) t.heap) (aM ad)) args s 0 0 (aM ad)) (F0 m 79 ls [])) (v1 : Int32) (v2 : Int32) (v4 : Int32) (σ : SS) (hf : p_X8_beginNow_122 k79 v1 v2 v4 σ = some res) (H : Heap) (locs : List Loc) (ls : Array Slot) (hP : va_P D vwCl (wM ad cI cJ cZ σ) H) (hS : va_S (aM ad) s.heap H locs) (hl : lv_has ls 5 [(0, .ref (ad 0)), (1, .int v1), (2, .int v2), (4, .int v4)]) : W p l e R s m args below meth c H locs 0 0 (MQ below (va_Qv (fun (u : SS) => u = res) (fun u t => va_P D vwCl (wM ad cI cJ cZ u) t.heap) (aM ad)) args s 0 0 (aM ad)) (F0 m 122 ls []) := by
  obtain ⟨hx, hb, hr, hml, hown, hts, hlk⟩ := id hm
  unfold p_X8_beginNow_122 at hf
  refine lv_iinc (v := (v4 + (-1))) (lv' := [(4, .int (v4 + (-1))), (0, .ref (ad 0)), (1, .int v1), (2, .int v2)]) hx hb dX8_beginNow_122 hl (k := 3) rfl rfl (by decide) rfl (fun ls hl => ?_)
  refine lv_goto (tgt := 79) hx hb dX8_beginNow_125 (by decide) ?_
  exact hk79 v1 v2 (v4 + (-1)) σ hf _ _ _ hP hS (lv_sub hl [1, 2, 3, 0] rfl)
def p_X8_beginNow_150 (σ : SS) : Option (SS) := some σ
set_option maxHeartbeats 4000000 in
set_option maxRecDepth 100000 in
theorem w_X8_beginNow_150 {p : Program} {l : Launch} {e : Env} {R : Room} {s : State} {m : MethodId} {args : Array Value} {below : List Frame} {meth : Method} {c : Code} {D : va_G} {ad : Nat → Nat} {cI cJ cZ : ClassId} {res : SS} (hm : mx p s m args meth c cX8_beginNow 5 none wsX8_beginNow RX8) (hR : 2 ≤ R.frames ∧ 47 ≤ R.locals) (hK : va_K D vwCl (tyw cI cJ cZ) s) (hD : ∀ σ, va_D (aM ad) (wM ad cI cJ cZ σ)) (σ : SS) (hf : p_X8_beginNow_150 σ = some res) (H : Heap) (locs : List Loc) (ls : Array Slot) (hP : va_P D vwCl (wM ad cI cJ cZ σ) H) (hS : va_S (aM ad) s.heap H locs) (hl : lv_has ls 5 []) : W p l e R s m args below meth c H locs 0 0 (MQ below (va_Qv (fun (u : SS) => u = res) (fun u t => va_P D vwCl (wM ad cI cJ cZ u) t.heap) (aM ad)) args s 0 0 (aM ad)) (F0 m 150 ls []) := by
  obtain ⟨hx, hb, hr, hml, hown, hts, hlk⟩ := id hm
  unfold p_X8_beginNow_150 at hf
  exact rt_v (wd := wM ad cI cJ cZ) hx hb hr hlk (Option.some.inj hf) hP hS dX8_beginNow_150
def p_X8_beginNow_79 : Nat → Int32 → Int32 → Int32 → SS → Option (SS)
  | 0, _, _, _, _ => none
  | n + 1, v1, v2, v4, σ => let k79 := p_X8_beginNow_79 n; if v4 < 0 then oi v1 16 (if (σ.1 2 v1.toNatClampNeg) = (-1) then p_X8_beginNow_150 σ else oi v1 16 (oc (p_X8_push_0 2 (σ.1 2 v1.toNatClampNeg) v2 σ) (fun r_147 => p_X8_beginNow_150 r_147))) else oc (p_X8_isUnder_0 v1 v4 σ) (fun r_88 => if r_88.1 = 0 then p_X8_beginNow_122 k79 v1 v2 v4 r_88.2 else oi v4 16 (if (r_88.2.1 1 v4.toNatClampNeg) = 2 then oc (p_X8_hasPlain_0 r_88.2 v4) (fun r_108 => if r_108 = 0 then p_X8_beginNow_122 k79 v1 v2 v4 r_88.2 else oc (p_X8_push_0 2 v4 v2 r_88.2) (fun r_119 => p_X8_beginNow_122 k79 v1 v2 v4 r_119)) else p_X8_beginNow_122 k79 v1 v2 v4 r_88.2))
set_option maxHeartbeats 4000000 in
set_option maxRecDepth 100000 in
theorem w_X8_beginNow_79 {p : Program} {l : Launch} {e : Env} {R : Room} {s : State} {m : MethodId} {args : Array Value} {below : List Frame} {meth : Method} {c : Code} {D : va_G} {ad : Nat → Nat} {cI cJ cZ : ClassId} {res : SS} (hm : mx p s m args meth c cX8_beginNow 5 none wsX8_beginNow RX8) (hR : 2 ≤ R.frames ∧ 47 ≤ R.locals) (hK : va_K D vwCl (tyw cI cJ cZ) s) (hD : ∀ σ, va_D (aM ad) (wM ad cI cJ cZ σ)) : ∀ (n : Nat) (v1 : Int32) (v2 : Int32) (v4 : Int32) (σ : SS), p_X8_beginNow_79 n v1 v2 v4 σ = some res → ∀ (H : Heap) (locs : List Loc) (ls : Array Slot), va_P D vwCl (wM ad cI cJ cZ σ) H → va_S (aM ad) s.heap H locs → lv_has ls 5 [(0, .ref (ad 0)), (1, .int v1), (2, .int v2), (4, .int v4)] → W p l e R s m args below meth c H locs 0 0 (MQ below (va_Qv (fun (u : SS) => u = res) (fun u t => va_P D vwCl (wM ad cI cJ cZ u) t.heap) (aM ad)) args s 0 0 (aM ad)) (F0 m 79 ls []) := by
  obtain ⟨hx, hb, hr, hml, hown, hts, hlk⟩ := id hm
  intro n
  induction n with
  | zero =>
    intro _ _ _ _ hf
    cases hf
  | succ n hk79 =>
    intro v1 v2 v4 σ hf H locs ls hP hS hl
    rw [p_X8_beginNow_79] at hf
    try dsimp only at hf
    refine lv_iload hx hb dX8_beginNow_79 (lv_at hl 3 rfl) ?_
    refine lv_if_lt (tgt := 128) hx hb dX8_beginNow_81 (by decide) (fun c_81 => ?_) (fun c_81 => ?_)
    · rw [if_pos c_81] at hf
      refine lv_aload_n hx hb dX8_beginNow_128 rfl (lv_at hl 0 rfl) ?_
      refine va_get (D := D) (ci := 7) (v := .ref (ad 2)) (C := RX8) (T := TX8) (N := 50) hx hb hts in_X8_beginNow_X8 hown hK hP 0 (wM_0 _ _ _ _ _) rfl 2 (by decide) (hts (.fieldLink RX8 13 "CallGraphsModel" "superOf" "[I") (List.mem_of_getElem? (i := 6) rfl)) (fun _ h9 => h9) (fM_0_2 _ _) dX8_beginNow_129 ?_
      refine lv_iload_n hx hb dX8_beginNow_132 rfl (lv_at hl 1 rfl) ?_
      obtain ⟨h_133, hf⟩ := oi_e hf
      refine va_iald hx hb hK hP 2 0 (wM_2 _ _ _ _ _) rfl h_133 dX8_beginNow_133 ?_
      refine lv_iconst (v := (-1)) hx hb dX8_beginNow_134 (by decide) ?_
      refine lv_icmp_eq (tgt := 150) hx hb dX8_beginNow_135 (by decide) (fun c_135 => ?_) (fun c_135 => ?_)
      · rw [if_pos c_135] at hf
        exact w_X8_beginNow_150 hm hR hK hD σ hf _ _ _ hP hS (lv_sub hl [] rfl)
      · rw [if_neg c_135] at hf
        refine lv_aload_n hx hb dX8_beginNow_138 rfl (lv_at hl 0 rfl) ?_
        refine lv_iconst (v := 2) hx hb dX8_beginNow_139 (by decide) ?_
        refine lv_aload_n hx hb dX8_beginNow_140 rfl (lv_at hl 0 rfl) ?_
        refine va_get (D := D) (ci := 7) (v := .ref (ad 2)) (C := RX8) (T := TX8) (N := 50) hx hb hts in_X8_beginNow_X8 hown hK hP 0 (wM_0 _ _ _ _ _) rfl 2 (by decide) (hts (.fieldLink RX8 13 "CallGraphsModel" "superOf" "[I") (List.mem_of_getElem? (i := 6) rfl)) (fun _ h9 => h9) (fM_0_2 _ _) dX8_beginNow_141 ?_
        refine lv_iload_n hx hb dX8_beginNow_144 rfl (lv_at hl 1 rfl) ?_
        obtain ⟨h_145, hf⟩ := oi_e hf
        refine va_iald hx hb hK hP 2 0 (wM_2 _ _ _ _ _) rfl h_145 dX8_beginNow_145 ?_
        refine lv_iload_n hx hb dX8_beginNow_146 rfl (lv_at hl 2 rfl) ?_
        obtain ⟨r_147, hg_147, hf⟩ := oc_e hf
        refine mV_wv (wd := wM ad cI cJ cZ) (σ := σ) (As := [.int 2, .int (σ.1 2 v1.toNatClampNeg), .int v2]) (rest := []) ⟨hx, hb, hml, hown, hts⟩ hK hP hD hS (c_X8_push l D ad cI cJ cZ σ 2 (σ.1 2 v1.toNatClampNeg) v2 hg_147) (cwV 3 hts gX8_beginNow_X8_push rfl rfl rfl hd_X8_push ⟨Nat.le_trans (Nat.le_of_ble_eq_true rfl) hR.1, Nat.le_trans (Nat.le_of_ble_eq_true rfl) hR.2⟩) rfl (wM_0 _ _ _ _ _) rfl hl.1 rfl (Nat.le_of_ble_eq_true rfl) dX8_beginNow_147 (fun H locs hP hS => ?_)
        exact w_X8_beginNow_150 hm hR hK hD r_147 hf _ _ _ hP hS (lv_sub hl [] rfl)
    · rw [if_neg c_81] at hf
      refine lv_aload_n hx hb dX8_beginNow_84 rfl (lv_at hl 0 rfl) ?_
      refine lv_iload_n hx hb dX8_beginNow_85 rfl (lv_at hl 1 rfl) ?_
      refine lv_iload hx hb dX8_beginNow_86 (lv_at hl 3 rfl) ?_
      obtain ⟨r_88, hg_88, hf⟩ := oc_e hf
      refine mV_wi (wd := wM ad cI cJ cZ) (σ := σ) (As := [.int v1, .int v4]) (rest := []) ⟨hx, hb, hml, hown, hts⟩ hK hP hD hS (c_X8_isUnder l D ad cI cJ cZ σ v1 v4 hg_88) (cwV 2 hts gX8_beginNow_X8_isUnder rfl rfl rfl hd_X8_isUnder ⟨Nat.le_trans (Nat.le_of_ble_eq_true rfl) hR.1, Nat.le_trans (Nat.le_of_ble_eq_true rfl) hR.2⟩) rfl (wM_0 _ _ _ _ _) rfl hl.1 rfl (Nat.le_of_ble_eq_true rfl) dX8_beginNow_88 (fun H locs hP hS => ?_)
      refine lv_if_eq (tgt := 122) hx hb dX8_beginNow_91 (by decide) (fun c_91 => ?_) (fun c_91 => ?_)
      · rw [if_pos c_91] at hf
        exact w_X8_beginNow_122 hm hR hK hD (p_X8_beginNow_79 n) hk79 v1 v2 v4 r_88.2 hf _ _ _ hP hS (lv_sub hl [0, 1, 2, 3] rfl)
      · rw [if_neg c_91] at hf
        refine lv_aload_n hx hb dX8_beginNow_94 rfl (lv_at hl 0 rfl) ?_
        refine va_get (D := D) (ci := 7) (v := .ref (ad 1)) (C := RX8) (T := TX8) (N := 50) hx hb hts in_X8_beginNow_X8 hown hK hP 0 (wM_0 _ _ _ _ _) rfl 1 (by decide) (hts (.fieldLink RX8 7 "CallGraphsModel" "kindOf" "[I") (List.mem_of_getElem? (i := 4) rfl)) (fun _ h9 => h9) (fM_0_1 _ _) dX8_beginNow_95 ?_
        refine lv_iload hx hb dX8_beginNow_98 (lv_at hl 3 rfl) ?_
        obtain ⟨h_100, hf⟩ := oi_e hf
        refine va_iald hx hb hK hP 1 0 (wM_1 _ _ _ _ _) rfl h_100 dX8_beginNow_100 ?_
        refine lv_iconst (v := 2) hx hb dX8_beginNow_101 (by decide) ?_
        refine lv_icmp_ne (tgt := 122) hx hb dX8_beginNow_102 (by decide) (fun c_102 => ?_) (fun c_102 => ?_)
        · rw [if_neg c_102] at hf
          exact w_X8_beginNow_122 hm hR hK hD (p_X8_beginNow_79 n) hk79 v1 v2 v4 r_88.2 hf _ _ _ hP hS (lv_sub hl [0, 1, 2, 3] rfl)
        · rw [if_pos c_102] at hf
          refine lv_aload_n hx hb dX8_beginNow_105 rfl (lv_at hl 0 rfl) ?_
          refine lv_iload hx hb dX8_beginNow_106 (lv_at hl 3 rfl) ?_
          obtain ⟨r_108, hg_108, hf⟩ := oc_e hf
          refine mV_ri (wd := wM ad cI cJ cZ) (σ := r_88.2) (As := [.int v4]) (rest := []) ⟨hx, hb, hml, hown, hts⟩ hK hP hD hS (c_X8_hasPlain l D ad cI cJ cZ r_88.2 v4 hg_108) (cwV 1 hts gX8_beginNow_X8_hasPlain rfl rfl rfl hd_X8_hasPlain ⟨Nat.le_trans (Nat.le_of_ble_eq_true rfl) hR.1, Nat.le_trans (Nat.le_of_ble_eq_true rfl) hR.2⟩) rfl (wM_0 _ _ _ _ _) rfl hl.1 rfl (Nat.le_of_ble_eq_true rfl) dX8_beginNow_108 (fun H locs hP hS => ?_)
          refine lv_if_eq (tgt := 122) hx hb dX8_beginNow_111 (by decide) (fun c_111 => ?_) (fun c_111 => ?_)
          · rw [if_pos c_111] at hf
            exact w_X8_beginNow_122 hm hR hK hD (p_X8_beginNow_79 n) hk79 v1 v2 v4 r_88.2 hf _ _ _ hP hS (lv_sub hl [0, 1, 2, 3] rfl)
          · rw [if_neg c_111] at hf
            refine lv_aload_n hx hb dX8_beginNow_114 rfl (lv_at hl 0 rfl) ?_
            refine lv_iconst (v := 2) hx hb dX8_beginNow_115 (by decide) ?_
            refine lv_iload hx hb dX8_beginNow_116 (lv_at hl 3 rfl) ?_
            refine lv_iload_n hx hb dX8_beginNow_118 rfl (lv_at hl 2 rfl) ?_
            obtain ⟨r_119, hg_119, hf⟩ := oc_e hf
            refine mV_wv (wd := wM ad cI cJ cZ) (σ := r_88.2) (As := [.int 2, .int v4, .int v2]) (rest := []) ⟨hx, hb, hml, hown, hts⟩ hK hP hD hS (c_X8_push l D ad cI cJ cZ r_88.2 2 v4 v2 hg_119) (cwV 3 hts gX8_beginNow_X8_push rfl rfl rfl hd_X8_push ⟨Nat.le_trans (Nat.le_of_ble_eq_true rfl) hR.1, Nat.le_trans (Nat.le_of_ble_eq_true rfl) hR.2⟩) rfl (wM_0 _ _ _ _ _) rfl hl.1 rfl (Nat.le_of_ble_eq_true rfl) dX8_beginNow_119 (fun H locs hP hS => ?_)
            exact w_X8_beginNow_122 hm hR hK hD (p_X8_beginNow_79 n) hk79 v1 v2 v4 r_119 hf _ _ _ hP hS (lv_sub hl [0, 1, 2, 3] rfl)
def p_X8_beginNow_61 (v1 : Int32) (v2 : Int32) (σ : SS) : Option (SS) := oi v1 16 (if (σ.1 1 v1.toNatClampNeg) = 2 then p_X8_beginNow_150 σ else p_X8_beginNow_79 100000 v1 v2 ((σ.1 0 0) - 1) σ)
set_option maxHeartbeats 4000000 in
set_option maxRecDepth 100000 in
theorem w_X8_beginNow_61 {p : Program} {l : Launch} {e : Env} {R : Room} {s : State} {m : MethodId} {args : Array Value} {below : List Frame} {meth : Method} {c : Code} {D : va_G} {ad : Nat → Nat} {cI cJ cZ : ClassId} {res : SS} (hm : mx p s m args meth c cX8_beginNow 5 none wsX8_beginNow RX8) (hR : 2 ≤ R.frames ∧ 47 ≤ R.locals) (hK : va_K D vwCl (tyw cI cJ cZ) s) (hD : ∀ σ, va_D (aM ad) (wM ad cI cJ cZ σ)) (v1 : Int32) (v2 : Int32) (σ : SS) (hf : p_X8_beginNow_61 v1 v2 σ = some res) (H : Heap) (locs : List Loc) (ls : Array Slot) (hP : va_P D vwCl (wM ad cI cJ cZ σ) H) (hS : va_S (aM ad) s.heap H locs) (hl : lv_has ls 5 [(0, .ref (ad 0)), (1, .int v1), (2, .int v2)]) : W p l e R s m args below meth c H locs 0 0 (MQ below (va_Qv (fun (u : SS) => u = res) (fun u t => va_P D vwCl (wM ad cI cJ cZ u) t.heap) (aM ad)) args s 0 0 (aM ad)) (F0 m 61 ls []) := by
  obtain ⟨hx, hb, hr, hml, hown, hts, hlk⟩ := id hm
  unfold p_X8_beginNow_61 at hf
  refine lv_aload_n hx hb dX8_beginNow_61 rfl (lv_at hl 0 rfl) ?_
  refine va_get (D := D) (ci := 7) (v := .ref (ad 1)) (C := RX8) (T := TX8) (N := 50) hx hb hts in_X8_beginNow_X8 hown hK hP 0 (wM_0 _ _ _ _ _) rfl 1 (by decide) (hts (.fieldLink RX8 7 "CallGraphsModel" "kindOf" "[I") (List.mem_of_getElem? (i := 4) rfl)) (fun _ h9 => h9) (fM_0_1 _ _) dX8_beginNow_62 ?_
  refine lv_iload_n hx hb dX8_beginNow_65 rfl (lv_at hl 1 rfl) ?_
  obtain ⟨h_66, hf⟩ := oi_e hf
  refine va_iald hx hb hK hP 1 0 (wM_1 _ _ _ _ _) rfl h_66 dX8_beginNow_66 ?_
  refine lv_iconst (v := 2) hx hb dX8_beginNow_67 (by decide) ?_
  refine lv_icmp_eq (tgt := 150) hx hb dX8_beginNow_68 (by decide) (fun c_68 => ?_) (fun c_68 => ?_)
  · rw [if_pos c_68] at hf
    exact w_X8_beginNow_150 hm hR hK hD σ hf _ _ _ hP hS (lv_sub hl [] rfl)
  · rw [if_neg c_68] at hf
    refine lv_aload_n hx hb dX8_beginNow_71 rfl (lv_at hl 0 rfl) ?_
    refine va_get (D := D) (ci := 7) (v := .int (σ.1 0 0)) (C := RX8) (T := TX8) (N := 50) hx hb hts in_X8_beginNow_X8 hown hK hP 0 (wM_0 _ _ _ _ _) rfl 0 (by decide) (hts (.fieldLink RX8 123 "CallGraphsModel" "types" "I") (List.mem_of_getElem? (i := 5) rfl)) (fun _ h9 => h9) (fM_0_0 _ _) dX8_beginNow_72 ?_
    refine lv_iconst (v := 1) hx hb dX8_beginNow_75 (by decide) ?_
    refine lv_isub hx hb dX8_beginNow_76 ?_
    refine lv_istore (lv' := [(4, .int ((σ.1 0 0) - 1)), (0, .ref (ad 0)), (1, .int v1), (2, .int v2)]) hx hb dX8_beginNow_77 hl (by decide) rfl (fun ls hl => ?_)
    exact w_X8_beginNow_79 hm hR hK hD 100000 v1 v2 ((σ.1 0 0) - 1) σ hf _ _ _ hP hS (lv_sub hl [1, 2, 3, 0] rfl)
def p_X8_beginNow_39 (v1 : Int32) (v2 : Int32) (t0 : Int32) (σ : SS) : Option (SS) := ob t0 (os (sI σ 0 43 t0) (fun s_39 => oc (p_X8_ownOf_0 s_39 v1 (-1)) (fun r_45 => if r_45 = (-1) then p_X8_beginNow_61 v1 v2 s_39 else oc (p_X8_push_0 1 r_45 v2 s_39) (fun r_58 => p_X8_beginNow_61 v1 v2 r_58))))
set_option maxHeartbeats 4000000 in
set_option maxRecDepth 100000 in
theorem w_X8_beginNow_39 {p : Program} {l : Launch} {e : Env} {R : Room} {s : State} {m : MethodId} {args : Array Value} {below : List Frame} {meth : Method} {c : Code} {D : va_G} {ad : Nat → Nat} {cI cJ cZ : ClassId} {res : SS} (hm : mx p s m args meth c cX8_beginNow 5 none wsX8_beginNow RX8) (hR : 2 ≤ R.frames ∧ 47 ≤ R.locals) (hK : va_K D vwCl (tyw cI cJ cZ) s) (hD : ∀ σ, va_D (aM ad) (wM ad cI cJ cZ σ)) (v1 : Int32) (v2 : Int32) (t0 : Int32) (σ : SS) (hf : p_X8_beginNow_39 v1 v2 t0 σ = some res) (H : Heap) (locs : List Loc) (ls : Array Slot) (hP : va_P D vwCl (wM ad cI cJ cZ σ) H) (hS : va_S (aM ad) s.heap H locs) (hl : lv_has ls 5 [(0, .ref (ad 0)), (1, .int v1), (2, .int v2)]) : W p l e R s m args below meth c H locs 0 0 (MQ below (va_Qv (fun (u : SS) => u = res) (fun u t => va_P D vwCl (wM ad cI cJ cZ u) t.heap) (aM ad)) args s 0 0 (aM ad)) (F0 m 39 ls [.int t0, .ref (ad 0)]) := by
  obtain ⟨hx, hb, hr, hml, hown, hts, hlk⟩ := id hm
  unfold p_X8_beginNow_39 at hf
  obtain ⟨h_39, hf⟩ := ob_e hf
  refine va_put (D := D) (ci := 7) (v := .int t0) (ty := .boolean) (C := RX8) (T := TX8) (N := 50) hx hb hts in_X8_beginNow_X8 tyX8 tyX8_ok nmX8 hown hK hP (hD _) hS 0 (wM_0 _ _ _ _ _) rfl 43 (by decide) (hts (.fieldLink RX8 250 "CallGraphsModel" "isRight" "Z") (List.mem_of_getElem? (i := 2) rfl)) (fun _ h9 => h9) rfl (tyX8_ok 43 (by decide)) (nb_n h_39) (nb_f h_39) (Nat.le_of_ble_eq_true rfl) dX8_beginNow_39 (fun H locs hP _ hS => ?_)
  have hP := wM_p0_43 hP
  obtain ⟨s_39, es_39, hf⟩ := os_e hf
  rw [← es_39] at hP
  refine lv_aload_n hx hb dX8_beginNow_42 rfl (lv_at hl 0 rfl) ?_
  refine lv_iload_n hx hb dX8_beginNow_43 rfl (lv_at hl 1 rfl) ?_
  refine lv_iconst (v := (-1)) hx hb dX8_beginNow_44 (by decide) ?_
  obtain ⟨r_45, hg_45, hf⟩ := oc_e hf
  refine mV_ri (wd := wM ad cI cJ cZ) (σ := s_39) (As := [.int v1, .int (-1)]) (rest := []) ⟨hx, hb, hml, hown, hts⟩ hK hP hD hS (c_X8_ownOf l D ad cI cJ cZ s_39 v1 (-1) hg_45) (cwV 2 hts gX8_beginNow_X8_ownOf rfl rfl rfl hd_X8_ownOf ⟨Nat.le_trans (Nat.le_of_ble_eq_true rfl) hR.1, Nat.le_trans (Nat.le_of_ble_eq_true rfl) hR.2⟩) rfl (wM_0 _ _ _ _ _) rfl hl.1 rfl (Nat.le_of_ble_eq_true rfl) dX8_beginNow_45 (fun H locs hP hS => ?_)
  refine lv_istore_n (lv' := [(3, .int r_45), (0, .ref (ad 0)), (1, .int v1), (2, .int v2)]) hx hb dX8_beginNow_48 rfl hl (by decide) rfl (fun ls hl => ?_)
  refine lv_iload_n hx hb dX8_beginNow_49 rfl (lv_at hl 0 rfl) ?_
  refine lv_iconst (v := (-1)) hx hb dX8_beginNow_50 (by decide) ?_
  refine lv_icmp_eq (tgt := 61) hx hb dX8_beginNow_51 (by decide) (fun c_51 => ?_) (fun c_51 => ?_)
  · rw [if_pos c_51] at hf
    exact w_X8_beginNow_61 hm hR hK hD v1 v2 s_39 hf _ _ _ hP hS (lv_sub hl [1, 2, 3] rfl)
  · rw [if_neg c_51] at hf
    refine lv_aload_n hx hb dX8_beginNow_54 rfl (lv_at hl 1 rfl) ?_
    refine lv_iconst (v := 1) hx hb dX8_beginNow_55 (by decide) ?_
    refine lv_iload_n hx hb dX8_beginNow_56 rfl (lv_at hl 0 rfl) ?_
    refine lv_iload_n hx hb dX8_beginNow_57 rfl (lv_at hl 3 rfl) ?_
    obtain ⟨r_58, hg_58, hf⟩ := oc_e hf
    refine mV_wv (wd := wM ad cI cJ cZ) (σ := s_39) (As := [.int 1, .int r_45, .int v2]) (rest := []) ⟨hx, hb, hml, hown, hts⟩ hK hP hD hS (c_X8_push l D ad cI cJ cZ s_39 1 r_45 v2 hg_58) (cwV 3 hts gX8_beginNow_X8_push rfl rfl rfl hd_X8_push ⟨Nat.le_trans (Nat.le_of_ble_eq_true rfl) hR.1, Nat.le_trans (Nat.le_of_ble_eq_true rfl) hR.2⟩) rfl (wM_0 _ _ _ _ _) rfl hl.1 rfl (Nat.le_of_ble_eq_true rfl) dX8_beginNow_58 (fun H locs hP hS => ?_)
    exact w_X8_beginNow_61 hm hR hK hD v1 v2 r_58 hf _ _ _ hP hS (lv_sub hl [1, 2, 3] rfl)
def p_X8_beginNow_38 (v1 : Int32) (v2 : Int32) (σ : SS) : Option (SS) := p_X8_beginNow_39 v1 v2 0 σ
set_option maxHeartbeats 4000000 in
set_option maxRecDepth 100000 in
theorem w_X8_beginNow_38 {p : Program} {l : Launch} {e : Env} {R : Room} {s : State} {m : MethodId} {args : Array Value} {below : List Frame} {meth : Method} {c : Code} {D : va_G} {ad : Nat → Nat} {cI cJ cZ : ClassId} {res : SS} (hm : mx p s m args meth c cX8_beginNow 5 none wsX8_beginNow RX8) (hR : 2 ≤ R.frames ∧ 47 ≤ R.locals) (hK : va_K D vwCl (tyw cI cJ cZ) s) (hD : ∀ σ, va_D (aM ad) (wM ad cI cJ cZ σ)) (v1 : Int32) (v2 : Int32) (σ : SS) (hf : p_X8_beginNow_38 v1 v2 σ = some res) (H : Heap) (locs : List Loc) (ls : Array Slot) (hP : va_P D vwCl (wM ad cI cJ cZ σ) H) (hS : va_S (aM ad) s.heap H locs) (hl : lv_has ls 5 [(0, .ref (ad 0)), (1, .int v1), (2, .int v2)]) : W p l e R s m args below meth c H locs 0 0 (MQ below (va_Qv (fun (u : SS) => u = res) (fun u t => va_P D vwCl (wM ad cI cJ cZ u) t.heap) (aM ad)) args s 0 0 (aM ad)) (F0 m 38 ls [.ref (ad 0)]) := by
  obtain ⟨hx, hb, hr, hml, hown, hts, hlk⟩ := id hm
  unfold p_X8_beginNow_38 at hf
  refine lv_iconst (v := 0) hx hb dX8_beginNow_38 (by decide) ?_
  exact w_X8_beginNow_39 hm hR hK hD v1 v2 0 σ hf _ _ _ hP hS (lv_sub hl [0, 1, 2] rfl)
def p_X8_beginNow_0 (v1 : Int32) (v2 : Int32) (σ : SS) : Option (SS) := oi v1 16 (if (σ.1 33 v1.toNatClampNeg) = 0 then oi v1 16 (os (sI σ 33 (v1.toNatClampNeg) 1) (fun s_16 => if (s_16.1 0 43) = 0 then p_X8_beginNow_38 v1 v2 s_16 else oi v1 16 (if (s_16.1 16 v1.toNatClampNeg) = 0 then p_X8_beginNow_38 v1 v2 s_16 else p_X8_beginNow_39 v1 v2 1 s_16))) else some σ)
set_option maxHeartbeats 4000000 in
set_option maxRecDepth 100000 in
theorem w_X8_beginNow_0 {p : Program} {l : Launch} {e : Env} {R : Room} {s : State} {m : MethodId} {args : Array Value} {below : List Frame} {meth : Method} {c : Code} {D : va_G} {ad : Nat → Nat} {cI cJ cZ : ClassId} {res : SS} (hm : mx p s m args meth c cX8_beginNow 5 none wsX8_beginNow RX8) (hR : 2 ≤ R.frames ∧ 47 ≤ R.locals) (hK : va_K D vwCl (tyw cI cJ cZ) s) (hD : ∀ σ, va_D (aM ad) (wM ad cI cJ cZ σ)) (v1 : Int32) (v2 : Int32) (σ : SS) (hf : p_X8_beginNow_0 v1 v2 σ = some res) (H : Heap) (locs : List Loc) (ls : Array Slot) (hP : va_P D vwCl (wM ad cI cJ cZ σ) H) (hS : va_S (aM ad) s.heap H locs) (hl : lv_has ls 5 [(0, .ref (ad 0)), (1, .int v1), (2, .int v2)]) : W p l e R s m args below meth c H locs 0 0 (MQ below (va_Qv (fun (u : SS) => u = res) (fun u t => va_P D vwCl (wM ad cI cJ cZ u) t.heap) (aM ad)) args s 0 0 (aM ad)) (F0 m 0 ls []) := by
  obtain ⟨hx, hb, hr, hml, hown, hts, hlk⟩ := id hm
  unfold p_X8_beginNow_0 at hf
  refine lv_aload_n hx hb dX8_beginNow_0 rfl (lv_at hl 0 rfl) ?_
  refine va_get (D := D) (ci := 7) (v := .ref (ad 33)) (C := RX8) (T := TX8) (N := 50) hx hb hts in_X8_beginNow_X8 hown hK hP 0 (wM_0 _ _ _ _ _) rfl 45 (by decide) (hts (.fieldLink RX8 107 "CallGraphsModel" "begunNow" "[Z") (List.mem_of_getElem? (i := 1) rfl)) (fun _ h9 => h9) (fM_0_45 _ _) dX8_beginNow_1 ?_
  refine lv_iload_n hx hb dX8_beginNow_4 rfl (lv_at hl 1 rfl) ?_
  obtain ⟨h_5, hf⟩ := oi_e hf
  refine va_zald hx hb hK hP 33 2 (wM_33 _ _ _ _ _) rfl h_5 dX8_beginNow_5 ?_
  refine lv_if_eq (tgt := 10) hx hb dX8_beginNow_6 (by decide) (fun c_6 => ?_) (fun c_6 => ?_)
  · rw [if_pos c_6] at hf
    refine lv_aload_n hx hb dX8_beginNow_10 rfl (lv_at hl 0 rfl) ?_
    refine va_get (D := D) (ci := 7) (v := .ref (ad 33)) (C := RX8) (T := TX8) (N := 50) hx hb hts in_X8_beginNow_X8 hown hK hP 0 (wM_0 _ _ _ _ _) rfl 45 (by decide) (hts (.fieldLink RX8 107 "CallGraphsModel" "begunNow" "[Z") (List.mem_of_getElem? (i := 1) rfl)) (fun _ h9 => h9) (fM_0_45 _ _) dX8_beginNow_11 ?_
    refine lv_iload_n hx hb dX8_beginNow_14 rfl (lv_at hl 1 rfl) ?_
    refine lv_iconst (v := 1) hx hb dX8_beginNow_15 (by decide) ?_
    obtain ⟨h_16, hf⟩ := oi_e hf
    refine va_zast hx hb hK hP (hD _) hS 33 2 (wM_33 _ _ _ _ _) rfl h_16 dX8_beginNow_16 (fun H locs hP _ hS => ?_)
    rw [nb_a (Or.inr rfl)] at hP
    have hP := wM_s33 hP
    obtain ⟨s_16, es_16, hf⟩ := os_e hf
    rw [← es_16] at hP
    refine lv_aload_n hx hb dX8_beginNow_17 rfl (lv_at hl 0 rfl) ?_
    refine lv_aload_n hx hb dX8_beginNow_18 rfl (lv_at hl 0 rfl) ?_
    refine va_get (D := D) (ci := 7) (v := .int (s_16.1 0 43)) (C := RX8) (T := TX8) (N := 50) hx hb hts in_X8_beginNow_X8 hown hK hP 0 (wM_0 _ _ _ _ _) rfl 43 (by decide) (hts (.fieldLink RX8 250 "CallGraphsModel" "isRight" "Z") (List.mem_of_getElem? (i := 2) rfl)) (fun _ h9 => h9) (fM_0_43 _ _) dX8_beginNow_19 ?_
    refine lv_if_eq (tgt := 38) hx hb dX8_beginNow_22 (by decide) (fun c_22 => ?_) (fun c_22 => ?_)
    · rw [if_pos c_22] at hf
      exact w_X8_beginNow_38 hm hR hK hD v1 v2 s_16 hf _ _ _ hP hS (lv_sub hl [0, 1, 2] rfl)
    · rw [if_neg c_22] at hf
      refine lv_aload_n hx hb dX8_beginNow_25 rfl (lv_at hl 0 rfl) ?_
      refine va_get (D := D) (ci := 7) (v := .ref (ad 16)) (C := RX8) (T := TX8) (N := 50) hx hb hts in_X8_beginNow_X8 hown hK hP 0 (wM_0 _ _ _ _ _) rfl 20 (by decide) (hts (.fieldLink RX8 56 "CallGraphsModel" "begunAt" "[Z") (List.mem_of_getElem? (i := 3) rfl)) (fun _ h9 => h9) (fM_0_20 _ _) dX8_beginNow_26 ?_
      refine lv_iload_n hx hb dX8_beginNow_29 rfl (lv_at hl 1 rfl) ?_
      obtain ⟨h_30, hf⟩ := oi_e hf
      refine va_zald hx hb hK hP 16 2 (wM_16 _ _ _ _ _) rfl h_30 dX8_beginNow_30 ?_
      refine lv_if_eq (tgt := 38) hx hb dX8_beginNow_31 (by decide) (fun c_31 => ?_) (fun c_31 => ?_)
      · rw [if_pos c_31] at hf
        exact w_X8_beginNow_38 hm hR hK hD v1 v2 s_16 hf _ _ _ hP hS (lv_sub hl [0, 1, 2] rfl)
      · rw [if_neg c_31] at hf
        refine lv_iconst (v := 1) hx hb dX8_beginNow_34 (by decide) ?_
        refine lv_goto (tgt := 39) hx hb dX8_beginNow_35 (by decide) ?_
        exact w_X8_beginNow_39 hm hR hK hD v1 v2 1 s_16 hf _ _ _ hP hS (lv_sub hl [0, 1, 2] rfl)
  · rw [if_neg c_6] at hf
    exact rt_v (wd := wM ad cI cJ cZ) hx hb hr hlk (Option.some.inj hf) hP hS dX8_beginNow_9
theorem hd_X8_beginNow : yX8_beginNow.cls = RX8 ∧ yX8_beginNow.cls ≠ "java/lang/invoke/MethodHandle" ∧ yX8_beginNow.cls ≠ "java/lang/invoke/VarHandle" ∧ (parseMethodDescriptor yX8_beginNow.desc).map (fun d => d.parameters.length) = some 2 := by decide +kernel
set_option maxHeartbeats 4000000 in
set_option maxRecDepth 100000 in
theorem c_X8_beginNow (l : Launch) (D : va_G) (ad : Nat → Nat) (cI cJ cZ : ClassId) (σ : SS) (v1 : Int32) (v2 : Int32) {res : SS} (hf : p_X8_beginNow_0 v1 v2 σ = some res) : Met l yX8_beginNow wsX8_beginNow ({ frames := 2, cells := 0, slots := 0, locals := 47 } : Room) (PW D (tyw cI cJ cZ) (wM ad cI cJ cZ σ) [.ref (ad 0), .int v1, .int v2]) (va_Qv (fun (u : SS) => u = res) (fun u t => va_P D vwCl (wM ad cI cJ cZ u) t.heap) (aM ad)) 0 0 (aM ad) := by
  refine Met.ofW (cc := cX8_beginNow) (maxL := 5) (ret := none) (by decide) rfl ?_
  intro p e s m args below meth c s₁ B hml hv
  obtain ⟨rfl, hP, hK, hD0⟩ := hv
  have hD : ∀ σ, va_D (aM ad) (wM ad cI cJ cZ σ) := fun σ => wd_D hD0 (wM_map _ _ _ _ _) (wM_map _ _ _ _ _)
  have hm : mx p s m _ meth c cX8_beginNow 5 none wsX8_beginNow RX8 := ⟨B.exec, B.bytes, B.returns, hml, findClass_of_methodNamed B.named, atoms_spec (ws := wsX8_beginNow) B.pre, B.notSynchronized⟩
  have hl := lv_entry ([.ref (ad 0), .int v1, .int v2]) (n := 5) (Nat.le_of_ble_eq_true rfl)
  rw [lg_entry_eq]
  generalize (lg_sl ([.ref (ad 0), .int v1, .int v2]) ++ List.replicate (5 - (lg_sl ([.ref (ad 0), .int v1, .int v2])).length) Slot.unset).toArray = ls at hl ⊢
  exact w_X8_beginNow_0 hm ⟨Nat.le_refl _, Nat.le_refl _⟩ hK hD v1 v2 σ hf _ _ _ hP va_S.rf hl
/-! CallGraphsModel.runCall(I)V -/
theorem in_X8_runCall_X8 : ∀ w ∈ u_ws RX8 TX8 50, w ∈ wsX8_runCall := fun w h => List.mem_cons_of_mem _ (List.mem_append_right _ h)
def p_X8_runCall_42 (k12 : Int32 → Int32 → Int32 → Int32 → SS → Option (SS)) (v1 : Int32) (v2 : Int32) (v4 : Int32) (t0 : Int32) (t1 : Int32) (σ : SS) : Option (SS) := k12 v1 v2 (t1 + t0) (v4 + 1) σ
set_option maxHeartbeats 4000000 in
set_option maxRecDepth 100000 in
theorem w_X8_runCall_42 {p : Program} {l : Launch} {e : Env} {R : Room} {s : State} {m : MethodId} {args : Array Value} {below : List Frame} {meth : Method} {c : Code} {D : va_G} {ad : Nat → Nat} {cI cJ cZ : ClassId} {res : SS} (hm : mx p s m args meth c cX8_runCall 7 none wsX8_runCall RX8) (hR : 5 ≤ R.frames ∧ 124 ≤ R.locals) (hK : va_K D vwCl (tyw cI cJ cZ) s) (hD : ∀ σ, va_D (aM ad) (wM ad cI cJ cZ σ)) (k12 : Int32 → Int32 → Int32 → Int32 → SS → Option (SS)) (hk12 : ∀ (v1 : Int32) (v2 : Int32) (v3 : Int32) (v4 : Int32) (σ : SS), k12 v1 v2 v3 v4 σ = some res → ∀ (H : Heap) (locs : List Loc) (ls : Array Slot), va_P D vwCl (wM ad cI cJ cZ σ) H → va_S (aM ad) s.heap H locs → lv_has ls 7 [(0, .ref (ad 0)), (1, .int v1), (2, .int v2), (3, .int v3), (4, .int v4)] → W p l e R s m args below meth c H locs 0 0 (MQ below (va_Qv (fun (u : SS) => u = res) (fun u t => va_P D vwCl (wM ad cI cJ cZ u) t.heap) (aM ad)) args s 0 0 (aM ad)) (F0 m 12 ls [])) (v1 : Int32) (v2 : Int32) (v4 : Int32) (t0 : Int32) (t1 : Int32) (σ : SS) (hf : p_X8_runCall_42 k12 v1 v2 v4 t0 t1 σ = some res) (H : Heap) (locs : List Loc) (ls : Array Slot) (hP : va_P D vwCl (wM ad cI cJ cZ σ) H) (hS : va_S (aM ad) s.heap H locs) (hl : lv_has ls 7 [(0, .ref (ad 0)), (1, .int v1), (2, .int v2), (4, .int v4)]) : W p l e R s m args below meth c H locs 0 0 (MQ below (va_Qv (fun (u : SS) => u = res) (fun u t => va_P D vwCl (wM ad cI cJ cZ u) t.heap) (aM ad)) args s 0 0 (aM ad)) (F0 m 42 ls [.int t0, .int t1]) := by
  obtain ⟨hx, hb, hr, hml, hown, hts, hlk⟩ := id hm
  unfold p_X8_runCall_42 at hf
  refine lv_iadd hx hb dX8_runCall_42 ?_
  refine lv_istore_n (lv' := [(3, .int (t1 + t0)), (0, .ref (ad 0)), (1, .int v1), (2, .int v2), (4, .int v4)]) hx hb dX8_runCall_43 rfl hl (by decide) rfl (fun ls hl => ?_)
  refine lv_iinc (v := (v4 + 1)) (lv' := [(4, .int (v4 + 1)), (3, .int (t1 + t0)), (0, .ref (ad 0)), (1, .int v1), (2, .int v2)]) hx hb dX8_runCall_44 hl (k := 4) rfl rfl (by decide) rfl (fun ls hl => ?_)
  refine lv_goto (tgt := 12) hx hb dX8_runCall_47 (by decide) ?_
  exact hk12 v1 v2 (t1 + t0) (v4 + 1) σ hf _ _ _ hP hS (lv_sub hl [2, 3, 4, 1, 0] rfl)
def p_X8_runCall_130 (k65 : Int32 → Int32 → Int32 → Int32 → SS → Option (SS)) (v1 : Int32) (v2 : Int32) (v4 : Int32) (v5 : Int32) (σ : SS) : Option (SS) := k65 v1 v2 v4 (v5 + 1) σ
set_option maxHeartbeats 4000000 in
set_option maxRecDepth 100000 in
theorem w_X8_runCall_130 {p : Program} {l : Launch} {e : Env} {R : Room} {s : State} {m : MethodId} {args : Array Value} {below : List Frame} {meth : Method} {c : Code} {D : va_G} {ad : Nat → Nat} {cI cJ cZ : ClassId} {res : SS} (hm : mx p s m args meth c cX8_runCall 7 none wsX8_runCall RX8) (hR : 5 ≤ R.frames ∧ 124 ≤ R.locals) (hK : va_K D vwCl (tyw cI cJ cZ) s) (hD : ∀ σ, va_D (aM ad) (wM ad cI cJ cZ σ)) (k65 : Int32 → Int32 → Int32 → Int32 → SS → Option (SS)) (hk65 : ∀ (v1 : Int32) (v2 : Int32) (v4 : Int32) (v5 : Int32) (σ : SS), k65 v1 v2 v4 v5 σ = some res → ∀ (H : Heap) (locs : List Loc) (ls : Array Slot), va_P D vwCl (wM ad cI cJ cZ σ) H → va_S (aM ad) s.heap H locs → lv_has ls 7 [(0, .ref (ad 0)), (1, .int v1), (2, .int v2), (4, .int v4), (5, .int v5)] → W p l e R s m args below meth c H locs 0 0 (MQ below (va_Qv (fun (u : SS) => u = res) (fun u t => va_P D vwCl (wM ad cI cJ cZ u) t.heap) (aM ad)) args s 0 0 (aM ad)) (F0 m 65 ls [])) (v1 : Int32) (v2 : Int32) (v4 : Int32) (v5 : Int32) (σ : SS) (hf : p_X8_runCall_130 k65 v1 v2 v4 v5 σ = some res) (H : Heap) (locs : List Loc) (ls : Array Slot) (hP : va_P D vwCl (wM ad cI cJ cZ σ) H) (hS : va_S (aM ad) s.heap H locs) (hl : lv_has ls 7 [(0, .ref (ad 0)), (1, .int v1), (2, .int v2), (4, .int v4), (5, .int v5)]) : W p l e R s m args below meth c H locs 0 0 (MQ below (va_Qv (fun (u : SS) => u = res) (fun u t => va_P D vwCl (wM ad cI cJ cZ u) t.heap) (aM ad)) args s 0 0 (aM ad)) (F0 m 130 ls []) := by
  obtain ⟨hx, hb, hr, hml, hown, hts, hlk⟩ := id hm
  unfold p_X8_runCall_130 at hf
  refine lv_iinc (v := (v5 + 1)) (lv' := [(5, .int (v5 + 1)), (0, .ref (ad 0)), (1, .int v1), (2, .int v2), (4, .int v4)]) hx hb dX8_runCall_130 hl (k := 4) rfl rfl (by decide) rfl (fun ls hl => ?_)
  refine lv_goto (tgt := 65) hx hb dX8_runCall_133 (by decide) ?_
  exact hk65 v1 v2 v4 (v5 + 1) σ hf _ _ _ hP hS (lv_sub hl [1, 2, 3, 4, 0] rfl)
def p_X8_runCall_127 (k65 : Int32 → Int32 → Int32 → Int32 → SS → Option (SS)) (v1 : Int32) (v2 : Int32) (v4 : Int32) (v5 : Int32) (σ : SS) : Option (SS) := p_X8_runCall_130 k65 v1 v2 (v4 + (-1)) v5 σ
set_option maxHeartbeats 4000000 in
set_option maxRecDepth 100000 in
theorem w_X8_runCall_127 {p : Program} {l : Launch} {e : Env} {R : Room} {s : State} {m : MethodId} {args : Array Value} {below : List Frame} {meth : Method} {c : Code} {D : va_G} {ad : Nat → Nat} {cI cJ cZ : ClassId} {res : SS} (hm : mx p s m args meth c cX8_runCall 7 none wsX8_runCall RX8) (hR : 5 ≤ R.frames ∧ 124 ≤ R.locals) (hK : va_K D vwCl (tyw cI cJ cZ) s) (hD : ∀ σ, va_D (aM ad) (wM ad cI cJ cZ σ)) (k65 : Int32 → Int32 → Int32 → Int32 → SS → Option (SS)) (hk65 : ∀ (v1 : Int32) (v2 : Int32) (v4 : Int32) (v5 : Int32) (σ : SS), k65 v1 v2 v4 v5 σ = some res → ∀ (H : Heap) (locs : List Loc) (ls : Array Slot), va_P D vwCl (wM ad cI cJ cZ σ) H → va_S (aM ad) s.heap H locs → lv_has ls 7 [(0, .ref (ad 0)), (1, .int v1), (2, .int v2), (4, .int v4), (5, .int v5)] → W p l e R s m args below meth c H locs 0 0 (MQ below (va_Qv (fun (u : SS) => u = res) (fun u t => va_P D vwCl (wM ad cI cJ cZ u) t.heap) (aM ad)) args s 0 0 (aM ad)) (F0 m 65 ls [])) (v1 : Int32) (v2 : Int32) (v4 : Int32) (v5 : Int32) (σ : SS) (hf : p_X8_runCall_127 k65 v1 v2 v4 v5 σ = some res) (H : Heap) (locs : List Loc) (ls : Array Slot) (hP : va_P D vwCl (wM ad cI cJ cZ σ) H) (hS : va_S (aM ad) s.heap H locs) (hl : lv_has ls 7 [(0, .ref (ad 0)), (1, .int v1), (2, .int v2), (4, .int v4), (5, .int v5)]) : W p l e R s m args below meth c H locs 0 0 (MQ below (va_Qv (fun (u : SS) => u = res) (fun u t => va_P D vwCl (wM ad cI cJ cZ u) t.heap) (aM ad)) args s 0 0 (aM ad)) (F0 m 127 ls []) := by
  obtain ⟨hx, hb, hr, hml, hown, hts, hlk⟩ := id hm
  unfold p_X8_runCall_127 at hf
  refine lv_iinc (v := (v4 + (-1))) (lv' := [(4, .int (v4 + (-1))), (0, .ref (ad 0)), (1, .int v1), (2, .int v2), (5, .int v5)]) hx hb dX8_runCall_127 hl (k := 3) rfl rfl (by decide) rfl (fun ls hl => ?_)
  exact w_X8_runCall_130 hm hR hK hD k65 hk65 v1 v2 (v4 + (-1)) v5 σ hf _ _ _ hP hS (lv_sub hl [1, 2, 3, 0, 4] rfl)
def p_X8_runCall_65 : Nat → Int32 → Int32 → Int32 → Int32 → SS → Option (SS)
  | 0, _, _, _, _, _ => none
  | n + 1, v1, v2, v4, v5, σ => let k65 := p_X8_runCall_65 n; if (σ.1 0 47) ≤ v5 then some σ else oi v5 20 (oc (p_X8_isUnder_0 (σ.1 34 v5.toNatClampNeg) v2 σ) (fun r_83 => if r_83.1 = 0 then p_X8_runCall_130 k65 v1 v2 v4 v5 r_83.2 else if v4 = 0 then oi v5 20 (oi v1 160 (oc (p_X8_chosenOf_0 (r_83.2.1 34 v5.toNatClampNeg) v2 (r_83.2.1 13 v1.toNatClampNeg) r_83.2) (fun r_109 => if r_109.1 < 0 then p_X8_runCall_127 k65 v1 v2 v4 v5 r_109.2 else oc (p_X8_push_0 1 r_109.1 v1 r_109.2) (fun r_124 => p_X8_runCall_127 k65 v1 v2 v4 v5 r_124)))) else p_X8_runCall_127 k65 v1 v2 v4 v5 r_83.2))
set_option maxHeartbeats 4000000 in
set_option maxRecDepth 100000 in
theorem w_X8_runCall_65 {p : Program} {l : Launch} {e : Env} {R : Room} {s : State} {m : MethodId} {args : Array Value} {below : List Frame} {meth : Method} {c : Code} {D : va_G} {ad : Nat → Nat} {cI cJ cZ : ClassId} {res : SS} (hm : mx p s m args meth c cX8_runCall 7 none wsX8_runCall RX8) (hR : 5 ≤ R.frames ∧ 124 ≤ R.locals) (hK : va_K D vwCl (tyw cI cJ cZ) s) (hD : ∀ σ, va_D (aM ad) (wM ad cI cJ cZ σ)) : ∀ (n : Nat) (v1 : Int32) (v2 : Int32) (v4 : Int32) (v5 : Int32) (σ : SS), p_X8_runCall_65 n v1 v2 v4 v5 σ = some res → ∀ (H : Heap) (locs : List Loc) (ls : Array Slot), va_P D vwCl (wM ad cI cJ cZ σ) H → va_S (aM ad) s.heap H locs → lv_has ls 7 [(0, .ref (ad 0)), (1, .int v1), (2, .int v2), (4, .int v4), (5, .int v5)] → W p l e R s m args below meth c H locs 0 0 (MQ below (va_Qv (fun (u : SS) => u = res) (fun u t => va_P D vwCl (wM ad cI cJ cZ u) t.heap) (aM ad)) args s 0 0 (aM ad)) (F0 m 65 ls []) := by
  obtain ⟨hx, hb, hr, hml, hown, hts, hlk⟩ := id hm
  intro n
  induction n with
  | zero =>
    intro _ _ _ _ _ hf
    cases hf
  | succ n hk65 =>
    intro v1 v2 v4 v5 σ hf H locs ls hP hS hl
    rw [p_X8_runCall_65] at hf
    try dsimp only at hf
    refine lv_iload hx hb dX8_runCall_65 (lv_at hl 4 rfl) ?_
    refine lv_aload_n hx hb dX8_runCall_67 rfl (lv_at hl 0 rfl) ?_
    refine va_get (D := D) (ci := 7) (v := .int (σ.1 0 47)) (C := RX8) (T := TX8) (N := 50) hx hb hts in_X8_runCall_X8 hown hK hP 0 (wM_0 _ _ _ _ _) rfl 47 (by decide) (hts (.fieldLink RX8 268 "CallGraphsModel" "pools" "I") (List.mem_of_getElem? (i := 2) rfl)) (fun _ h9 => h9) (fM_0_47 _ _) dX8_runCall_68 ?_
    refine lv_icmp_ge (tgt := 136) hx hb dX8_runCall_71 (by decide) (fun c_71 => ?_) (fun c_71 => ?_)
    · rw [if_pos c_71] at hf
      exact rt_v (wd := wM ad cI cJ cZ) hx hb hr hlk (Option.some.inj hf) hP hS dX8_runCall_136
    · rw [if_neg c_71] at hf
      refine lv_aload_n hx hb dX8_runCall_74 rfl (lv_at hl 0 rfl) ?_
      refine lv_aload_n hx hb dX8_runCall_75 rfl (lv_at hl 0 rfl) ?_
      refine va_get (D := D) (ci := 7) (v := .ref (ad 34)) (C := RX8) (T := TX8) (N := 50) hx hb hts in_X8_runCall_X8 hown hK hP 0 (wM_0 _ _ _ _ _) rfl 46 (by decide) (hts (.fieldLink RX8 110 "CallGraphsModel" "pool" "[I") (List.mem_of_getElem? (i := 3) rfl)) (fun _ h9 => h9) (fM_0_46 _ _) dX8_runCall_76 ?_
      refine lv_iload hx hb dX8_runCall_79 (lv_at hl 4 rfl) ?_
      obtain ⟨h_81, hf⟩ := oi_e hf
      refine va_iald hx hb hK hP 34 0 (wM_34 _ _ _ _ _) rfl h_81 dX8_runCall_81 ?_
      refine lv_iload_n hx hb dX8_runCall_82 rfl (lv_at hl 2 rfl) ?_
      obtain ⟨r_83, hg_83, hf⟩ := oc_e hf
      refine mV_wi (wd := wM ad cI cJ cZ) (σ := σ) (As := [.int (σ.1 34 v5.toNatClampNeg), .int v2]) (rest := []) ⟨hx, hb, hml, hown, hts⟩ hK hP hD hS (c_X8_isUnder l D ad cI cJ cZ σ (σ.1 34 v5.toNatClampNeg) v2 hg_83) (cwV 2 hts gX8_runCall_X8_isUnder rfl rfl rfl hd_X8_isUnder ⟨Nat.le_trans (Nat.le_of_ble_eq_true rfl) hR.1, Nat.le_trans (Nat.le_of_ble_eq_true rfl) hR.2⟩) rfl (wM_0 _ _ _ _ _) rfl hl.1 rfl (Nat.le_of_ble_eq_true rfl) dX8_runCall_83 (fun H locs hP hS => ?_)
      refine lv_if_eq (tgt := 130) hx hb dX8_runCall_86 (by decide) (fun c_86 => ?_) (fun c_86 => ?_)
      · rw [if_pos c_86] at hf
        exact w_X8_runCall_130 hm hR hK hD (p_X8_runCall_65 n) hk65 v1 v2 v4 v5 r_83.2 hf _ _ _ hP hS (lv_sub hl [0, 1, 2, 3, 4] rfl)
      · rw [if_neg c_86] at hf
        refine lv_iload hx hb dX8_runCall_89 (lv_at hl 3 rfl) ?_
        refine lv_if_ne (tgt := 127) hx hb dX8_runCall_91 (by decide) (fun c_91 => ?_) (fun c_91 => ?_)
        · rw [if_neg c_91] at hf
          exact w_X8_runCall_127 hm hR hK hD (p_X8_runCall_65 n) hk65 v1 v2 v4 v5 r_83.2 hf _ _ _ hP hS (lv_sub hl [0, 1, 2, 3, 4] rfl)
        · rw [if_pos c_91] at hf
          refine lv_aload_n hx hb dX8_runCall_94 rfl (lv_at hl 0 rfl) ?_
          refine lv_aload_n hx hb dX8_runCall_95 rfl (lv_at hl 0 rfl) ?_
          refine va_get (D := D) (ci := 7) (v := .ref (ad 34)) (C := RX8) (T := TX8) (N := 50) hx hb hts in_X8_runCall_X8 hown hK hP 0 (wM_0 _ _ _ _ _) rfl 46 (by decide) (hts (.fieldLink RX8 110 "CallGraphsModel" "pool" "[I") (List.mem_of_getElem? (i := 3) rfl)) (fun _ h9 => h9) (fM_0_46 _ _) dX8_runCall_96 ?_
          refine lv_iload hx hb dX8_runCall_99 (lv_at hl 4 rfl) ?_
          obtain ⟨h_101, hf⟩ := oi_e hf
          refine va_iald hx hb hK hP 34 0 (wM_34 _ _ _ _ _) rfl h_101 dX8_runCall_101 ?_
          refine lv_iload_n hx hb dX8_runCall_102 rfl (lv_at hl 2 rfl) ?_
          refine lv_aload_n hx hb dX8_runCall_103 rfl (lv_at hl 0 rfl) ?_
          refine va_get (D := D) (ci := 7) (v := .ref (ad 13)) (C := RX8) (T := TX8) (N := 50) hx hb hts in_X8_runCall_X8 hown hK hP 0 (wM_0 _ _ _ _ _) rfl 15 (by decide) (hts (.fieldLink RX8 47 "CallGraphsModel" "opB" "[I") (List.mem_of_getElem? (i := 4) rfl)) (fun _ h9 => h9) (fM_0_15 _ _) dX8_runCall_104 ?_
          refine lv_iload_n hx hb dX8_runCall_107 rfl (lv_at hl 1 rfl) ?_
          obtain ⟨h_108, hf⟩ := oi_e hf
          refine va_iald hx hb hK hP 13 0 (wM_13 _ _ _ _ _) rfl h_108 dX8_runCall_108 ?_
          obtain ⟨r_109, hg_109, hf⟩ := oc_e hf
          refine mV_wi (wd := wM ad cI cJ cZ) (σ := r_83.2) (As := [.int (r_83.2.1 34 v5.toNatClampNeg), .int v2, .int (r_83.2.1 13 v1.toNatClampNeg)]) (rest := []) ⟨hx, hb, hml, hown, hts⟩ hK hP hD hS (c_X8_chosenOf l D ad cI cJ cZ r_83.2 (r_83.2.1 34 v5.toNatClampNeg) v2 (r_83.2.1 13 v1.toNatClampNeg) hg_109) (cwV 3 hts gX8_runCall_X8_chosenOf rfl rfl rfl hd_X8_chosenOf ⟨Nat.le_trans (Nat.le_of_ble_eq_true rfl) hR.1, Nat.le_trans (Nat.le_of_ble_eq_true rfl) hR.2⟩) rfl (wM_0 _ _ _ _ _) rfl hl.1 rfl (Nat.le_of_ble_eq_true rfl) dX8_runCall_109 (fun H locs hP hS => ?_)
          refine lv_istore (lv' := [(6, .int r_109.1), (0, .ref (ad 0)), (1, .int v1), (2, .int v2), (4, .int v4), (5, .int v5)]) hx hb dX8_runCall_112 hl (by decide) rfl (fun ls hl => ?_)
          refine lv_iload hx hb dX8_runCall_114 (lv_at hl 0 rfl) ?_
          refine lv_if_lt (tgt := 127) hx hb dX8_runCall_116 (by decide) (fun c_116 => ?_) (fun c_116 => ?_)
          · rw [if_pos c_116] at hf
            exact w_X8_runCall_127 hm hR hK hD (p_X8_runCall_65 n) hk65 v1 v2 v4 v5 r_109.2 hf _ _ _ hP hS (lv_sub hl [1, 2, 3, 4, 5] rfl)
          · rw [if_neg c_116] at hf
            refine lv_aload_n hx hb dX8_runCall_119 rfl (lv_at hl 1 rfl) ?_
            refine lv_iconst (v := 1) hx hb dX8_runCall_120 (by decide) ?_
            refine lv_iload hx hb dX8_runCall_121 (lv_at hl 0 rfl) ?_
            refine lv_iload_n hx hb dX8_runCall_123 rfl (lv_at hl 2 rfl) ?_
            obtain ⟨r_124, hg_124, hf⟩ := oc_e hf
            refine mV_wv (wd := wM ad cI cJ cZ) (σ := r_109.2) (As := [.int 1, .int r_109.1, .int v1]) (rest := []) ⟨hx, hb, hml, hown, hts⟩ hK hP hD hS (c_X8_push l D ad cI cJ cZ r_109.2 1 r_109.1 v1 hg_124) (cwV 3 hts gX8_runCall_X8_push rfl rfl rfl hd_X8_push ⟨Nat.le_trans (Nat.le_of_ble_eq_true rfl) hR.1, Nat.le_trans (Nat.le_of_ble_eq_true rfl) hR.2⟩) rfl (wM_0 _ _ _ _ _) rfl hl.1 rfl (Nat.le_of_ble_eq_true rfl) dX8_runCall_124 (fun H locs hP hS => ?_)
            exact w_X8_runCall_127 hm hR hK hD (p_X8_runCall_65 n) hk65 v1 v2 v4 v5 r_124 hf _ _ _ hP hS (lv_sub hl [1, 2, 3, 4, 5] rfl)
def p_X8_runCall_12 : Nat → Int32 → Int32 → Int32 → Int32 → SS → Option (SS)
  | 0, _, _, _, _, _ => none
  | n + 1, v1, v2, v3, v4, σ => let k12 := p_X8_runCall_12 n; if (σ.1 0 47) ≤ v4 then if v3 = 0 then some σ else oc (p_X8_draw_0 v3 σ) (fun r_57 => p_X8_runCall_65 100000 v1 v2 r_57.1 0 r_57.2) else oi v4 20 (oc (p_X8_isUnder_0 (σ.1 34 v4.toNatClampNeg) v2 σ) (fun r_31 => if r_31.1 = 0 then p_X8_runCall_42 k12 v1 v2 v4 0 v3 r_31.2 else p_X8_runCall_42 k12 v1 v2 v4 1 v3 r_31.2))
set_option maxHeartbeats 4000000 in
set_option maxRecDepth 100000 in
theorem w_X8_runCall_12 {p : Program} {l : Launch} {e : Env} {R : Room} {s : State} {m : MethodId} {args : Array Value} {below : List Frame} {meth : Method} {c : Code} {D : va_G} {ad : Nat → Nat} {cI cJ cZ : ClassId} {res : SS} (hm : mx p s m args meth c cX8_runCall 7 none wsX8_runCall RX8) (hR : 5 ≤ R.frames ∧ 124 ≤ R.locals) (hK : va_K D vwCl (tyw cI cJ cZ) s) (hD : ∀ σ, va_D (aM ad) (wM ad cI cJ cZ σ)) : ∀ (n : Nat) (v1 : Int32) (v2 : Int32) (v3 : Int32) (v4 : Int32) (σ : SS), p_X8_runCall_12 n v1 v2 v3 v4 σ = some res → ∀ (H : Heap) (locs : List Loc) (ls : Array Slot), va_P D vwCl (wM ad cI cJ cZ σ) H → va_S (aM ad) s.heap H locs → lv_has ls 7 [(0, .ref (ad 0)), (1, .int v1), (2, .int v2), (3, .int v3), (4, .int v4)] → W p l e R s m args below meth c H locs 0 0 (MQ below (va_Qv (fun (u : SS) => u = res) (fun u t => va_P D vwCl (wM ad cI cJ cZ u) t.heap) (aM ad)) args s 0 0 (aM ad)) (F0 m 12 ls []) := by
  obtain ⟨hx, hb, hr, hml, hown, hts, hlk⟩ := id hm
  intro n
  induction n with
  | zero =>
    intro _ _ _ _ _ hf
    cases hf
  | succ n hk12 =>
    intro v1 v2 v3 v4 σ hf H locs ls hP hS hl
    rw [p_X8_runCall_12] at hf
    try dsimp only at hf
    refine lv_iload hx hb dX8_runCall_12 (lv_at hl 4 rfl) ?_
    refine lv_aload_n hx hb dX8_runCall_14 rfl (lv_at hl 0 rfl) ?_
    refine va_get (D := D) (ci := 7) (v := .int (σ.1 0 47)) (C := RX8) (T := TX8) (N := 50) hx hb hts in_X8_runCall_X8 hown hK hP 0 (wM_0 _ _ _ _ _) rfl 47 (by decide) (hts (.fieldLink RX8 268 "CallGraphsModel" "pools" "I") (List.mem_of_getElem? (i := 2) rfl)) (fun _ h9 => h9) (fM_0_47 _ _) dX8_runCall_15 ?_
    refine lv_icmp_ge (tgt := 50) hx hb dX8_runCall_18 (by decide) (fun c_18 => ?_) (fun c_18 => ?_)
    · rw [if_pos c_18] at hf
      refine lv_iload_n hx hb dX8_runCall_50 rfl (lv_at hl 3 rfl) ?_
      refine lv_if_ne (tgt := 55) hx hb dX8_runCall_51 (by decide) (fun c_51 => ?_) (fun c_51 => ?_)
      · rw [if_neg c_51] at hf
        refine lv_aload_n hx hb dX8_runCall_55 rfl (lv_at hl 0 rfl) ?_
        refine lv_iload_n hx hb dX8_runCall_56 rfl (lv_at hl 3 rfl) ?_
        obtain ⟨r_57, hg_57, hf⟩ := oc_e hf
        refine mV_wi (wd := wM ad cI cJ cZ) (σ := σ) (As := [.int v3]) (rest := []) ⟨hx, hb, hml, hown, hts⟩ hK hP hD hS (c_X8_draw l D ad cI cJ cZ σ v3 hg_57) (cwV 1 hts gX8_runCall_X8_draw rfl rfl rfl hd_X8_draw ⟨Nat.le_trans (Nat.le_of_ble_eq_true rfl) hR.1, Nat.le_trans (Nat.le_of_ble_eq_true rfl) hR.2⟩) rfl (wM_0 _ _ _ _ _) rfl hl.1 rfl (Nat.le_of_ble_eq_true rfl) dX8_runCall_57 (fun H locs hP hS => ?_)
        refine lv_istore (lv' := [(4, .int r_57.1), (0, .ref (ad 0)), (1, .int v1), (2, .int v2), (3, .int v3)]) hx hb dX8_runCall_60 hl (by decide) rfl (fun ls hl => ?_)
        refine lv_iconst (v := 0) hx hb dX8_runCall_62 (by decide) ?_
        refine lv_istore (lv' := [(5, .int 0), (4, .int r_57.1), (0, .ref (ad 0)), (1, .int v1), (2, .int v2), (3, .int v3)]) hx hb dX8_runCall_63 hl (by decide) rfl (fun ls hl => ?_)
        exact w_X8_runCall_65 hm hR hK hD 100000 v1 v2 r_57.1 0 r_57.2 hf _ _ _ hP hS (lv_sub hl [2, 3, 4, 1, 0] rfl)
      · rw [if_pos c_51] at hf
        exact rt_v (wd := wM ad cI cJ cZ) hx hb hr hlk (Option.some.inj hf) hP hS dX8_runCall_54
    · rw [if_neg c_18] at hf
      refine lv_iload_n hx hb dX8_runCall_21 rfl (lv_at hl 3 rfl) ?_
      refine lv_aload_n hx hb dX8_runCall_22 rfl (lv_at hl 0 rfl) ?_
      refine lv_aload_n hx hb dX8_runCall_23 rfl (lv_at hl 0 rfl) ?_
      refine va_get (D := D) (ci := 7) (v := .ref (ad 34)) (C := RX8) (T := TX8) (N := 50) hx hb hts in_X8_runCall_X8 hown hK hP 0 (wM_0 _ _ _ _ _) rfl 46 (by decide) (hts (.fieldLink RX8 110 "CallGraphsModel" "pool" "[I") (List.mem_of_getElem? (i := 3) rfl)) (fun _ h9 => h9) (fM_0_46 _ _) dX8_runCall_24 ?_
      refine lv_iload hx hb dX8_runCall_27 (lv_at hl 4 rfl) ?_
      obtain ⟨h_29, hf⟩ := oi_e hf
      refine va_iald hx hb hK hP 34 0 (wM_34 _ _ _ _ _) rfl h_29 dX8_runCall_29 ?_
      refine lv_iload_n hx hb dX8_runCall_30 rfl (lv_at hl 2 rfl) ?_
      obtain ⟨r_31, hg_31, hf⟩ := oc_e hf
      refine mV_wi (wd := wM ad cI cJ cZ) (σ := σ) (As := [.int (σ.1 34 v4.toNatClampNeg), .int v2]) (rest := [.int v3]) ⟨hx, hb, hml, hown, hts⟩ hK hP hD hS (c_X8_isUnder l D ad cI cJ cZ σ (σ.1 34 v4.toNatClampNeg) v2 hg_31) (cwV 2 hts gX8_runCall_X8_isUnder rfl rfl rfl hd_X8_isUnder ⟨Nat.le_trans (Nat.le_of_ble_eq_true rfl) hR.1, Nat.le_trans (Nat.le_of_ble_eq_true rfl) hR.2⟩) rfl (wM_0 _ _ _ _ _) rfl hl.1 rfl (Nat.le_of_ble_eq_true rfl) dX8_runCall_31 (fun H locs hP hS => ?_)
      refine lv_if_eq (tgt := 41) hx hb dX8_runCall_34 (by decide) (fun c_34 => ?_) (fun c_34 => ?_)
      · rw [if_pos c_34] at hf
        refine lv_iconst (v := 0) hx hb dX8_runCall_41 (by decide) ?_
        exact w_X8_runCall_42 hm hR hK hD (p_X8_runCall_12 n) hk12 v1 v2 v4 0 v3 r_31.2 hf _ _ _ hP hS (lv_sub hl [0, 1, 2, 4] rfl)
      · rw [if_neg c_34] at hf
        refine lv_iconst (v := 1) hx hb dX8_runCall_37 (by decide) ?_
        refine lv_goto (tgt := 42) hx hb dX8_runCall_38 (by decide) ?_
        exact w_X8_runCall_42 hm hR hK hD (p_X8_runCall_12 n) hk12 v1 v2 v4 1 v3 r_31.2 hf _ _ _ hP hS (lv_sub hl [0, 1, 2, 4] rfl)
def p_X8_runCall_0 (v1 : Int32) (σ : SS) : Option (SS) := oi v1 160 (p_X8_runCall_12 100000 v1 (σ.1 12 v1.toNatClampNeg) 0 0 σ)
set_option maxHeartbeats 4000000 in
set_option maxRecDepth 100000 in
theorem w_X8_runCall_0 {p : Program} {l : Launch} {e : Env} {R : Room} {s : State} {m : MethodId} {args : Array Value} {below : List Frame} {meth : Method} {c : Code} {D : va_G} {ad : Nat → Nat} {cI cJ cZ : ClassId} {res : SS} (hm : mx p s m args meth c cX8_runCall 7 none wsX8_runCall RX8) (hR : 5 ≤ R.frames ∧ 124 ≤ R.locals) (hK : va_K D vwCl (tyw cI cJ cZ) s) (hD : ∀ σ, va_D (aM ad) (wM ad cI cJ cZ σ)) (v1 : Int32) (σ : SS) (hf : p_X8_runCall_0 v1 σ = some res) (H : Heap) (locs : List Loc) (ls : Array Slot) (hP : va_P D vwCl (wM ad cI cJ cZ σ) H) (hS : va_S (aM ad) s.heap H locs) (hl : lv_has ls 7 [(0, .ref (ad 0)), (1, .int v1)]) : W p l e R s m args below meth c H locs 0 0 (MQ below (va_Qv (fun (u : SS) => u = res) (fun u t => va_P D vwCl (wM ad cI cJ cZ u) t.heap) (aM ad)) args s 0 0 (aM ad)) (F0 m 0 ls []) := by
  obtain ⟨hx, hb, hr, hml, hown, hts, hlk⟩ := id hm
  unfold p_X8_runCall_0 at hf
  refine lv_aload_n hx hb dX8_runCall_0 rfl (lv_at hl 0 rfl) ?_
  refine va_get (D := D) (ci := 7) (v := .ref (ad 12)) (C := RX8) (T := TX8) (N := 50) hx hb hts in_X8_runCall_X8 hown hK hP 0 (wM_0 _ _ _ _ _) rfl 14 (by decide) (hts (.fieldLink RX8 44 "CallGraphsModel" "opA" "[I") (List.mem_of_getElem? (i := 1) rfl)) (fun _ h9 => h9) (fM_0_14 _ _) dX8_runCall_1 ?_
  refine lv_iload_n hx hb dX8_runCall_4 rfl (lv_at hl 1 rfl) ?_
  obtain ⟨h_5, hf⟩ := oi_e hf
  refine va_iald hx hb hK hP 12 0 (wM_12 _ _ _ _ _) rfl h_5 dX8_runCall_5 ?_
  refine lv_istore_n (lv' := [(2, .int (σ.1 12 v1.toNatClampNeg)), (0, .ref (ad 0)), (1, .int v1)]) hx hb dX8_runCall_6 rfl hl (by decide) rfl (fun ls hl => ?_)
  refine lv_iconst (v := 0) hx hb dX8_runCall_7 (by decide) ?_
  refine lv_istore_n (lv' := [(3, .int 0), (2, .int (σ.1 12 v1.toNatClampNeg)), (0, .ref (ad 0)), (1, .int v1)]) hx hb dX8_runCall_8 rfl hl (by decide) rfl (fun ls hl => ?_)
  refine lv_iconst (v := 0) hx hb dX8_runCall_9 (by decide) ?_
  refine lv_istore (lv' := [(4, .int 0), (3, .int 0), (2, .int (σ.1 12 v1.toNatClampNeg)), (0, .ref (ad 0)), (1, .int v1)]) hx hb dX8_runCall_10 hl (by decide) rfl (fun ls hl => ?_)
  exact w_X8_runCall_12 hm hR hK hD 100000 v1 (σ.1 12 v1.toNatClampNeg) 0 0 σ hf _ _ _ hP hS (lv_sub hl [3, 4, 2, 1, 0] rfl)
theorem hd_X8_runCall : yX8_runCall.cls = RX8 ∧ yX8_runCall.cls ≠ "java/lang/invoke/MethodHandle" ∧ yX8_runCall.cls ≠ "java/lang/invoke/VarHandle" ∧ (parseMethodDescriptor yX8_runCall.desc).map (fun d => d.parameters.length) = some 1 := by decide +kernel
set_option maxHeartbeats 4000000 in
set_option maxRecDepth 100000 in
theorem c_X8_runCall (l : Launch) (D : va_G) (ad : Nat → Nat) (cI cJ cZ : ClassId) (σ : SS) (v1 : Int32) {res : SS} (hf : p_X8_runCall_0 v1 σ = some res) : Met l yX8_runCall wsX8_runCall ({ frames := 5, cells := 0, slots := 0, locals := 124 } : Room) (PW D (tyw cI cJ cZ) (wM ad cI cJ cZ σ) [.ref (ad 0), .int v1]) (va_Qv (fun (u : SS) => u = res) (fun u t => va_P D vwCl (wM ad cI cJ cZ u) t.heap) (aM ad)) 0 0 (aM ad) := by
  refine Met.ofW (cc := cX8_runCall) (maxL := 7) (ret := none) (by decide) rfl ?_
  intro p e s m args below meth c s₁ B hml hv
  obtain ⟨rfl, hP, hK, hD0⟩ := hv
  have hD : ∀ σ, va_D (aM ad) (wM ad cI cJ cZ σ) := fun σ => wd_D hD0 (wM_map _ _ _ _ _) (wM_map _ _ _ _ _)
  have hm : mx p s m _ meth c cX8_runCall 7 none wsX8_runCall RX8 := ⟨B.exec, B.bytes, B.returns, hml, findClass_of_methodNamed B.named, atoms_spec (ws := wsX8_runCall) B.pre, B.notSynchronized⟩
  have hl := lv_entry ([.ref (ad 0), .int v1]) (n := 7) (Nat.le_of_ble_eq_true rfl)
  rw [lg_entry_eq]
  generalize (lg_sl ([.ref (ad 0), .int v1]) ++ List.replicate (7 - (lg_sl ([.ref (ad 0), .int v1])).length) Slot.unset).toArray = ls at hl ⊢
  exact w_X8_runCall_0 hm ⟨Nat.le_refl _, Nat.le_refl _⟩ hK hD v1 σ hf _ _ _ hP va_S.rf hl
/-! CallGraphsModel.runAny(I)V -/
theorem in_X8_runAny_X8 : ∀ w ∈ u_ws RX8 TX8 50, w ∈ wsX8_runAny := fun w h => List.mem_cons_of_mem _ (List.mem_append_right _ h)
def p_X8_runAny_45 (k4 : Int32 → Int32 → Int32 → SS → Option (SS)) (v1 : Int32) (v3 : Int32) (t0 : Int32) (t1 : Int32) (σ : SS) : Option (SS) := k4 v1 (t1 + t0) (v3 + 1) σ
set_option maxHeartbeats 4000000 in
set_option maxRecDepth 100000 in
theorem w_X8_runAny_45 {p : Program} {l : Launch} {e : Env} {R : Room} {s : State} {m : MethodId} {args : Array Value} {below : List Frame} {meth : Method} {c : Code} {D : va_G} {ad : Nat → Nat} {cI cJ cZ : ClassId} {res : SS} (hm : mx p s m args meth c cX8_runAny 5 none wsX8_runAny RX8) (hR : 1 ≤ R.frames ∧ 23 ≤ R.locals) (hK : va_K D vwCl (tyw cI cJ cZ) s) (hD : ∀ σ, va_D (aM ad) (wM ad cI cJ cZ σ)) (k4 : Int32 → Int32 → Int32 → SS → Option (SS)) (hk4 : ∀ (v1 : Int32) (v2 : Int32) (v3 : Int32) (σ : SS), k4 v1 v2 v3 σ = some res → ∀ (H : Heap) (locs : List Loc) (ls : Array Slot), va_P D vwCl (wM ad cI cJ cZ σ) H → va_S (aM ad) s.heap H locs → lv_has ls 5 [(0, .ref (ad 0)), (1, .int v1), (2, .int v2), (3, .int v3)] → W p l e R s m args below meth c H locs 0 0 (MQ below (va_Qv (fun (u : SS) => u = res) (fun u t => va_P D vwCl (wM ad cI cJ cZ u) t.heap) (aM ad)) args s 0 0 (aM ad)) (F0 m 4 ls [])) (v1 : Int32) (v3 : Int32) (t0 : Int32) (t1 : Int32) (σ : SS) (hf : p_X8_runAny_45 k4 v1 v3 t0 t1 σ = some res) (H : Heap) (locs : List Loc) (ls : Array Slot) (hP : va_P D vwCl (wM ad cI cJ cZ σ) H) (hS : va_S (aM ad) s.heap H locs) (hl : lv_has ls 5 [(0, .ref (ad 0)), (1, .int v1), (3, .int v3)]) : W p l e R s m args below meth c H locs 0 0 (MQ below (va_Qv (fun (u : SS) => u = res) (fun u t => va_P D vwCl (wM ad cI cJ cZ u) t.heap) (aM ad)) args s 0 0 (aM ad)) (F0 m 45 ls [.int t0, .int t1]) := by
  obtain ⟨hx, hb, hr, hml, hown, hts, hlk⟩ := id hm
  unfold p_X8_runAny_45 at hf
  refine lv_iadd hx hb dX8_runAny_45 ?_
  refine lv_istore_n (lv' := [(2, .int (t1 + t0)), (0, .ref (ad 0)), (1, .int v1), (3, .int v3)]) hx hb dX8_runAny_46 rfl hl (by decide) rfl (fun ls hl => ?_)
  refine lv_iinc (v := (v3 + 1)) (lv' := [(3, .int (v3 + 1)), (2, .int (t1 + t0)), (0, .ref (ad 0)), (1, .int v1)]) hx hb dX8_runAny_47 hl (k := 3) rfl rfl (by decide) rfl (fun ls hl => ?_)
  refine lv_goto (tgt := 4) hx hb dX8_runAny_50 (by decide) ?_
  exact hk4 v1 (t1 + t0) (v3 + 1) σ hf _ _ _ hP hS (lv_sub hl [2, 3, 1, 0] rfl)
def p_X8_runAny_44 (k4 : Int32 → Int32 → Int32 → SS → Option (SS)) (v1 : Int32) (v3 : Int32) (t0 : Int32) (σ : SS) : Option (SS) := p_X8_runAny_45 k4 v1 v3 0 t0 σ
set_option maxHeartbeats 4000000 in
set_option maxRecDepth 100000 in
theorem w_X8_runAny_44 {p : Program} {l : Launch} {e : Env} {R : Room} {s : State} {m : MethodId} {args : Array Value} {below : List Frame} {meth : Method} {c : Code} {D : va_G} {ad : Nat → Nat} {cI cJ cZ : ClassId} {res : SS} (hm : mx p s m args meth c cX8_runAny 5 none wsX8_runAny RX8) (hR : 1 ≤ R.frames ∧ 23 ≤ R.locals) (hK : va_K D vwCl (tyw cI cJ cZ) s) (hD : ∀ σ, va_D (aM ad) (wM ad cI cJ cZ σ)) (k4 : Int32 → Int32 → Int32 → SS → Option (SS)) (hk4 : ∀ (v1 : Int32) (v2 : Int32) (v3 : Int32) (σ : SS), k4 v1 v2 v3 σ = some res → ∀ (H : Heap) (locs : List Loc) (ls : Array Slot), va_P D vwCl (wM ad cI cJ cZ σ) H → va_S (aM ad) s.heap H locs → lv_has ls 5 [(0, .ref (ad 0)), (1, .int v1), (2, .int v2), (3, .int v3)] → W p l e R s m args below meth c H locs 0 0 (MQ below (va_Qv (fun (u : SS) => u = res) (fun u t => va_P D vwCl (wM ad cI cJ cZ u) t.heap) (aM ad)) args s 0 0 (aM ad)) (F0 m 4 ls [])) (v1 : Int32) (v3 : Int32) (t0 : Int32) (σ : SS) (hf : p_X8_runAny_44 k4 v1 v3 t0 σ = some res) (H : Heap) (locs : List Loc) (ls : Array Slot) (hP : va_P D vwCl (wM ad cI cJ cZ σ) H) (hS : va_S (aM ad) s.heap H locs) (hl : lv_has ls 5 [(0, .ref (ad 0)), (1, .int v1), (3, .int v3)]) : W p l e R s m args below meth c H locs 0 0 (MQ below (va_Qv (fun (u : SS) => u = res) (fun u t => va_P D vwCl (wM ad cI cJ cZ u) t.heap) (aM ad)) args s 0 0 (aM ad)) (F0 m 44 ls [.int t0]) := by
  obtain ⟨hx, hb, hr, hml, hown, hts, hlk⟩ := id hm
  unfold p_X8_runAny_44 at hf
  refine lv_iconst (v := 0) hx hb dX8_runAny_44 (by decide) ?_
  exact w_X8_runAny_45 hm hR hK hD k4 hk4 v1 v3 0 t0 σ hf _ _ _ hP hS (lv_sub hl [0, 1, 2] rfl)
def p_X8_runAny_127 (k70 : Int32 → Int32 → Int32 → Int32 → SS → Option (SS)) (v1 : Int32) (v2 : Int32) (v3 : Int32) (v4 : Int32) (σ : SS) : Option (SS) := k70 v1 v2 v3 (v4 + 1) σ
set_option maxHeartbeats 4000000 in
set_option maxRecDepth 100000 in
theorem w_X8_runAny_127 {p : Program} {l : Launch} {e : Env} {R : Room} {s : State} {m : MethodId} {args : Array Value} {below : List Frame} {meth : Method} {c : Code} {D : va_G} {ad : Nat → Nat} {cI cJ cZ : ClassId} {res : SS} (hm : mx p s m args meth c cX8_runAny 5 none wsX8_runAny RX8) (hR : 1 ≤ R.frames ∧ 23 ≤ R.locals) (hK : va_K D vwCl (tyw cI cJ cZ) s) (hD : ∀ σ, va_D (aM ad) (wM ad cI cJ cZ σ)) (k70 : Int32 → Int32 → Int32 → Int32 → SS → Option (SS)) (hk70 : ∀ (v1 : Int32) (v2 : Int32) (v3 : Int32) (v4 : Int32) (σ : SS), k70 v1 v2 v3 v4 σ = some res → ∀ (H : Heap) (locs : List Loc) (ls : Array Slot), va_P D vwCl (wM ad cI cJ cZ σ) H → va_S (aM ad) s.heap H locs → lv_has ls 5 [(0, .ref (ad 0)), (1, .int v1), (2, .int v2), (3, .int v3), (4, .int v4)] → W p l e R s m args below meth c H locs 0 0 (MQ below (va_Qv (fun (u : SS) => u = res) (fun u t => va_P D vwCl (wM ad cI cJ cZ u) t.heap) (aM ad)) args s 0 0 (aM ad)) (F0 m 70 ls [])) (v1 : Int32) (v2 : Int32) (v3 : Int32) (v4 : Int32) (σ : SS) (hf : p_X8_runAny_127 k70 v1 v2 v3 v4 σ = some res) (H : Heap) (locs : List Loc) (ls : Array Slot) (hP : va_P D vwCl (wM ad cI cJ cZ σ) H) (hS : va_S (aM ad) s.heap H locs) (hl : lv_has ls 5 [(0, .ref (ad 0)), (1, .int v1), (2, .int v2), (3, .int v3), (4, .int v4)]) : W p l e R s m args below meth c H locs 0 0 (MQ below (va_Qv (fun (u : SS) => u = res) (fun u t => va_P D vwCl (wM ad cI cJ cZ u) t.heap) (aM ad)) args s 0 0 (aM ad)) (F0 m 127 ls []) := by
  obtain ⟨hx, hb, hr, hml, hown, hts, hlk⟩ := id hm
  unfold p_X8_runAny_127 at hf
  refine lv_iinc (v := (v4 + 1)) (lv' := [(4, .int (v4 + 1)), (0, .ref (ad 0)), (1, .int v1), (2, .int v2), (3, .int v3)]) hx hb dX8_runAny_127 hl (k := 4) rfl rfl (by decide) rfl (fun ls hl => ?_)
  refine lv_goto (tgt := 70) hx hb dX8_runAny_130 (by decide) ?_
  exact hk70 v1 v2 v3 (v4 + 1) σ hf _ _ _ hP hS (lv_sub hl [1, 2, 3, 4, 0] rfl)
def p_X8_runAny_124 (k70 : Int32 → Int32 → Int32 → Int32 → SS → Option (SS)) (v1 : Int32) (v2 : Int32) (v3 : Int32) (v4 : Int32) (σ : SS) : Option (SS) := p_X8_runAny_127 k70 v1 v2 (v3 + (-1)) v4 σ
set_option maxHeartbeats 4000000 in
set_option maxRecDepth 100000 in
theorem w_X8_runAny_124 {p : Program} {l : Launch} {e : Env} {R : Room} {s : State} {m : MethodId} {args : Array Value} {below : List Frame} {meth : Method} {c : Code} {D : va_G} {ad : Nat → Nat} {cI cJ cZ : ClassId} {res : SS} (hm : mx p s m args meth c cX8_runAny 5 none wsX8_runAny RX8) (hR : 1 ≤ R.frames ∧ 23 ≤ R.locals) (hK : va_K D vwCl (tyw cI cJ cZ) s) (hD : ∀ σ, va_D (aM ad) (wM ad cI cJ cZ σ)) (k70 : Int32 → Int32 → Int32 → Int32 → SS → Option (SS)) (hk70 : ∀ (v1 : Int32) (v2 : Int32) (v3 : Int32) (v4 : Int32) (σ : SS), k70 v1 v2 v3 v4 σ = some res → ∀ (H : Heap) (locs : List Loc) (ls : Array Slot), va_P D vwCl (wM ad cI cJ cZ σ) H → va_S (aM ad) s.heap H locs → lv_has ls 5 [(0, .ref (ad 0)), (1, .int v1), (2, .int v2), (3, .int v3), (4, .int v4)] → W p l e R s m args below meth c H locs 0 0 (MQ below (va_Qv (fun (u : SS) => u = res) (fun u t => va_P D vwCl (wM ad cI cJ cZ u) t.heap) (aM ad)) args s 0 0 (aM ad)) (F0 m 70 ls [])) (v1 : Int32) (v2 : Int32) (v3 : Int32) (v4 : Int32) (σ : SS) (hf : p_X8_runAny_124 k70 v1 v2 v3 v4 σ = some res) (H : Heap) (locs : List Loc) (ls : Array Slot) (hP : va_P D vwCl (wM ad cI cJ cZ σ) H) (hS : va_S (aM ad) s.heap H locs) (hl : lv_has ls 5 [(0, .ref (ad 0)), (1, .int v1), (2, .int v2), (3, .int v3), (4, .int v4)]) : W p l e R s m args below meth c H locs 0 0 (MQ below (va_Qv (fun (u : SS) => u = res) (fun u t => va_P D vwCl (wM ad cI cJ cZ u) t.heap) (aM ad)) args s 0 0 (aM ad)) (F0 m 124 ls []) := by
  obtain ⟨hx, hb, hr, hml, hown, hts, hlk⟩ := id hm
  unfold p_X8_runAny_124 at hf
  refine lv_iinc (v := (v3 + (-1))) (lv' := [(3, .int (v3 + (-1))), (0, .ref (ad 0)), (1, .int v1), (2, .int v2), (4, .int v4)]) hx hb dX8_runAny_124 hl (k := 3) rfl rfl (by decide) rfl (fun ls hl => ?_)
  exact w_X8_runAny_127 hm hR hK hD k70 hk70 v1 v2 (v3 + (-1)) v4 σ hf _ _ _ hP hS (lv_sub hl [1, 2, 3, 0, 4] rfl)
def p_X8_runAny_133 (σ : SS) : Option (SS) := some σ
set_option maxHeartbeats 4000000 in
set_option maxRecDepth 100000 in
theorem w_X8_runAny_133 {p : Program} {l : Launch} {e : Env} {R : Room} {s : State} {m : MethodId} {args : Array Value} {below : List Frame} {meth : Method} {c : Code} {D : va_G} {ad : Nat → Nat} {cI cJ cZ : ClassId} {res : SS} (hm : mx p s m args meth c cX8_runAny 5 none wsX8_runAny RX8) (hR : 1 ≤ R.frames ∧ 23 ≤ R.locals) (hK : va_K D vwCl (tyw cI cJ cZ) s) (hD : ∀ σ, va_D (aM ad) (wM ad cI cJ cZ σ)) (σ : SS) (hf : p_X8_runAny_133 σ = some res) (H : Heap) (locs : List Loc) (ls : Array Slot) (hP : va_P D vwCl (wM ad cI cJ cZ σ) H) (hS : va_S (aM ad) s.heap H locs) (hl : lv_has ls 5 []) : W p l e R s m args below meth c H locs 0 0 (MQ below (va_Qv (fun (u : SS) => u = res) (fun u t => va_P D vwCl (wM ad cI cJ cZ u) t.heap) (aM ad)) args s 0 0 (aM ad)) (F0 m 133 ls []) := by
  obtain ⟨hx, hb, hr, hml, hown, hts, hlk⟩ := id hm
  unfold p_X8_runAny_133 at hf
  exact rt_v (wd := wM ad cI cJ cZ) hx hb hr hlk (Option.some.inj hf) hP hS dX8_runAny_133
def p_X8_runAny_70 : Nat → Int32 → Int32 → Int32 → Int32 → SS → Option (SS)
  | 0, _, _, _, _, _ => none
  | n + 1, v1, v2, v3, v4, σ => let k70 := p_X8_runAny_70 n; if (σ.1 0 5) ≤ v4 then p_X8_runAny_133 σ else if v2 ≤ 0 then p_X8_runAny_133 σ else oi v4 48 (oi v1 160 (if (σ.1 6 v4.toNatClampNeg) = (σ.1 13 v1.toNatClampNeg) then oi v4 48 (oc (p_X8_canBeCalled_0 (σ.1 7 v4.toNatClampNeg)) (fun r_106 => if r_106 = 0 then p_X8_runAny_127 k70 v1 v2 v3 v4 σ else if v3 = 0 then oc (p_X8_push_0 1 v4 v1 σ) (fun r_121 => p_X8_runAny_124 k70 v1 v2 v3 v4 r_121) else p_X8_runAny_124 k70 v1 v2 v3 v4 σ)) else p_X8_runAny_127 k70 v1 v2 v3 v4 σ))
set_option maxHeartbeats 4000000 in
set_option maxRecDepth 100000 in
theorem w_X8_runAny_70 {p : Program} {l : Launch} {e : Env} {R : Room} {s : State} {m : MethodId} {args : Array Value} {below : List Frame} {meth : Method} {c : Code} {D : va_G} {ad : Nat → Nat} {cI cJ cZ : ClassId} {res : SS} (hm : mx p s m args meth c cX8_runAny 5 none wsX8_runAny RX8) (hR : 1 ≤ R.frames ∧ 23 ≤ R.locals) (hK : va_K D vwCl (tyw cI cJ cZ) s) (hD : ∀ σ, va_D (aM ad) (wM ad cI cJ cZ σ)) : ∀ (n : Nat) (v1 : Int32) (v2 : Int32) (v3 : Int32) (v4 : Int32) (σ : SS), p_X8_runAny_70 n v1 v2 v3 v4 σ = some res → ∀ (H : Heap) (locs : List Loc) (ls : Array Slot), va_P D vwCl (wM ad cI cJ cZ σ) H → va_S (aM ad) s.heap H locs → lv_has ls 5 [(0, .ref (ad 0)), (1, .int v1), (2, .int v2), (3, .int v3), (4, .int v4)] → W p l e R s m args below meth c H locs 0 0 (MQ below (va_Qv (fun (u : SS) => u = res) (fun u t => va_P D vwCl (wM ad cI cJ cZ u) t.heap) (aM ad)) args s 0 0 (aM ad)) (F0 m 70 ls []) := by
  obtain ⟨hx, hb, hr, hml, hown, hts, hlk⟩ := id hm
  intro n
  induction n with
  | zero =>
    intro _ _ _ _ _ hf
    cases hf
  | succ n hk70 =>
    intro v1 v2 v3 v4 σ hf H locs ls hP hS hl
    rw [p_X8_runAny_70] at hf
    try dsimp only at hf
    refine lv_iload hx hb dX8_runAny_70 (lv_at hl 4 rfl) ?_
    refine lv_aload_n hx hb dX8_runAny_72 rfl (lv_at hl 0 rfl) ?_
    refine va_get (D := D) (ci := 7) (v := .int (σ.1 0 5)) (C := RX8) (T := TX8) (N := 50) hx hb hts in_X8_runAny_X8 hown hK hP 0 (wM_0 _ _ _ _ _) rfl 5 (by decide) (hts (.fieldLink RX8 131 "CallGraphsModel" "members" "I") (List.mem_of_getElem? (i := 1) rfl)) (fun _ h9 => h9) (fM_0_5 _ _) dX8_runAny_73 ?_
    refine lv_icmp_ge (tgt := 133) hx hb dX8_runAny_76 (by decide) (fun c_76 => ?_) (fun c_76 => ?_)
    · rw [if_pos c_76] at hf
      exact w_X8_runAny_133 hm hR hK hD σ hf _ _ _ hP hS (lv_sub hl [] rfl)
    · rw [if_neg c_76] at hf
      refine lv_iload_n hx hb dX8_runAny_79 rfl (lv_at hl 2 rfl) ?_
      refine lv_if_le (tgt := 133) hx hb dX8_runAny_80 (by decide) (fun c_80 => ?_) (fun c_80 => ?_)
      · rw [if_pos c_80] at hf
        exact w_X8_runAny_133 hm hR hK hD σ hf _ _ _ hP hS (lv_sub hl [] rfl)
      · rw [if_neg c_80] at hf
        refine lv_aload_n hx hb dX8_runAny_83 rfl (lv_at hl 0 rfl) ?_
        refine va_get (D := D) (ci := 7) (v := .ref (ad 6)) (C := RX8) (T := TX8) (N := 50) hx hb hts in_X8_runAny_X8 hown hK hP 0 (wM_0 _ _ _ _ _) rfl 7 (by decide) (hts (.fieldLink RX8 25 "CallGraphsModel" "nameOf" "[I") (List.mem_of_getElem? (i := 2) rfl)) (fun _ h9 => h9) (fM_0_7 _ _) dX8_runAny_84 ?_
        refine lv_iload hx hb dX8_runAny_87 (lv_at hl 4 rfl) ?_
        obtain ⟨h_89, hf⟩ := oi_e hf
        refine va_iald hx hb hK hP 6 0 (wM_6 _ _ _ _ _) rfl h_89 dX8_runAny_89 ?_
        refine lv_aload_n hx hb dX8_runAny_90 rfl (lv_at hl 0 rfl) ?_
        refine va_get (D := D) (ci := 7) (v := .ref (ad 13)) (C := RX8) (T := TX8) (N := 50) hx hb hts in_X8_runAny_X8 hown hK hP 0 (wM_0 _ _ _ _ _) rfl 15 (by decide) (hts (.fieldLink RX8 47 "CallGraphsModel" "opB" "[I") (List.mem_of_getElem? (i := 3) rfl)) (fun _ h9 => h9) (fM_0_15 _ _) dX8_runAny_91 ?_
        refine lv_iload_n hx hb dX8_runAny_94 rfl (lv_at hl 1 rfl) ?_
        obtain ⟨h_95, hf⟩ := oi_e hf
        refine va_iald hx hb hK hP 13 0 (wM_13 _ _ _ _ _) rfl h_95 dX8_runAny_95 ?_
        refine lv_icmp_ne (tgt := 127) hx hb dX8_runAny_96 (by decide) (fun c_96 => ?_) (fun c_96 => ?_)
        · rw [if_neg c_96] at hf
          exact w_X8_runAny_127 hm hR hK hD (p_X8_runAny_70 n) hk70 v1 v2 v3 v4 σ hf _ _ _ hP hS (lv_sub hl [0, 1, 2, 3, 4] rfl)
        · rw [if_pos c_96] at hf
          refine lv_aload_n hx hb dX8_runAny_99 rfl (lv_at hl 0 rfl) ?_
          refine va_get (D := D) (ci := 7) (v := .ref (ad 7)) (C := RX8) (T := TX8) (N := 50) hx hb hts in_X8_runAny_X8 hown hK hP 0 (wM_0 _ _ _ _ _) rfl 8 (by decide) (hts (.fieldLink RX8 28 "CallGraphsModel" "sortOf" "[I") (List.mem_of_getElem? (i := 4) rfl)) (fun _ h9 => h9) (fM_0_8 _ _) dX8_runAny_100 ?_
          refine lv_iload hx hb dX8_runAny_103 (lv_at hl 4 rfl) ?_
          obtain ⟨h_105, hf⟩ := oi_e hf
          refine va_iald hx hb hK hP 7 0 (wM_7 _ _ _ _ _) rfl h_105 dX8_runAny_105 ?_
          obtain ⟨r_106, hg_106, hf⟩ := oc_e hf
          refine mS_i (D := D) (As := [.int (σ.1 7 v4.toNatClampNeg)]) (rest := []) ⟨hx, hb, hml, hown, hts⟩ hP hS (c_X8_canBeCalled l (σ.1 7 v4.toNatClampNeg) hg_106) (va_cwS 1 hts gX8_runAny_X8_canBeCalled rfl rfl rfl hd_X8_canBeCalled ⟨Nat.le_trans (Nat.le_of_ble_eq_true rfl) hR.1, Nat.le_trans (Nat.le_of_ble_eq_true rfl) hR.2⟩) rfl hl.1 rfl (Nat.le_of_ble_eq_true rfl) dX8_runAny_106 (fun H locs hP hS => ?_)
          refine lv_if_eq (tgt := 127) hx hb dX8_runAny_109 (by decide) (fun c_109 => ?_) (fun c_109 => ?_)
          · rw [if_pos c_109] at hf
            exact w_X8_runAny_127 hm hR hK hD (p_X8_runAny_70 n) hk70 v1 v2 v3 v4 σ hf _ _ _ hP hS (lv_sub hl [0, 1, 2, 3, 4] rfl)
          · rw [if_neg c_109] at hf
            refine lv_iload_n hx hb dX8_runAny_112 rfl (lv_at hl 3 rfl) ?_
            refine lv_if_ne (tgt := 124) hx hb dX8_runAny_113 (by decide) (fun c_113 => ?_) (fun c_113 => ?_)
            · rw [if_neg c_113] at hf
              exact w_X8_runAny_124 hm hR hK hD (p_X8_runAny_70 n) hk70 v1 v2 v3 v4 σ hf _ _ _ hP hS (lv_sub hl [0, 1, 2, 3, 4] rfl)
            · rw [if_pos c_113] at hf
              refine lv_aload_n hx hb dX8_runAny_116 rfl (lv_at hl 0 rfl) ?_
              refine lv_iconst (v := 1) hx hb dX8_runAny_117 (by decide) ?_
              refine lv_iload hx hb dX8_runAny_118 (lv_at hl 4 rfl) ?_
              refine lv_iload_n hx hb dX8_runAny_120 rfl (lv_at hl 1 rfl) ?_
              obtain ⟨r_121, hg_121, hf⟩ := oc_e hf
              refine mV_wv (wd := wM ad cI cJ cZ) (σ := σ) (As := [.int 1, .int v4, .int v1]) (rest := []) ⟨hx, hb, hml, hown, hts⟩ hK hP hD hS (c_X8_push l D ad cI cJ cZ σ 1 v4 v1 hg_121) (cwV 3 hts gX8_runAny_X8_push rfl rfl rfl hd_X8_push ⟨Nat.le_trans (Nat.le_of_ble_eq_true rfl) hR.1, Nat.le_trans (Nat.le_of_ble_eq_true rfl) hR.2⟩) rfl (wM_0 _ _ _ _ _) rfl hl.1 rfl (Nat.le_of_ble_eq_true rfl) dX8_runAny_121 (fun H locs hP hS => ?_)
              exact w_X8_runAny_124 hm hR hK hD (p_X8_runAny_70 n) hk70 v1 v2 v3 v4 r_121 hf _ _ _ hP hS (lv_sub hl [0, 1, 2, 3, 4] rfl)
def p_X8_runAny_66 (v1 : Int32) (v2 : Int32) (t0 : Int32) (σ : SS) : Option (SS) := p_X8_runAny_70 100000 v1 v2 t0 0 σ
set_option maxHeartbeats 4000000 in
set_option maxRecDepth 100000 in
theorem w_X8_runAny_66 {p : Program} {l : Launch} {e : Env} {R : Room} {s : State} {m : MethodId} {args : Array Value} {below : List Frame} {meth : Method} {c : Code} {D : va_G} {ad : Nat → Nat} {cI cJ cZ : ClassId} {res : SS} (hm : mx p s m args meth c cX8_runAny 5 none wsX8_runAny RX8) (hR : 1 ≤ R.frames ∧ 23 ≤ R.locals) (hK : va_K D vwCl (tyw cI cJ cZ) s) (hD : ∀ σ, va_D (aM ad) (wM ad cI cJ cZ σ)) (v1 : Int32) (v2 : Int32) (t0 : Int32) (σ : SS) (hf : p_X8_runAny_66 v1 v2 t0 σ = some res) (H : Heap) (locs : List Loc) (ls : Array Slot) (hP : va_P D vwCl (wM ad cI cJ cZ σ) H) (hS : va_S (aM ad) s.heap H locs) (hl : lv_has ls 5 [(0, .ref (ad 0)), (1, .int v1), (2, .int v2)]) : W p l e R s m args below meth c H locs 0 0 (MQ below (va_Qv (fun (u : SS) => u = res) (fun u t => va_P D vwCl (wM ad cI cJ cZ u) t.heap) (aM ad)) args s 0 0 (aM ad)) (F0 m 66 ls [.int t0]) := by
  obtain ⟨hx, hb, hr, hml, hown, hts, hlk⟩ := id hm
  unfold p_X8_runAny_66 at hf
  refine lv_istore_n (lv' := [(3, .int t0), (0, .ref (ad 0)), (1, .int v1), (2, .int v2)]) hx hb dX8_runAny_66 rfl hl (by decide) rfl (fun ls hl => ?_)
  refine lv_iconst (v := 0) hx hb dX8_runAny_67 (by decide) ?_
  refine lv_istore (lv' := [(4, .int 0), (3, .int t0), (0, .ref (ad 0)), (1, .int v1), (2, .int v2)]) hx hb dX8_runAny_68 hl (by decide) rfl (fun ls hl => ?_)
  exact w_X8_runAny_70 hm hR hK hD 100000 v1 v2 t0 0 σ hf _ _ _ hP hS (lv_sub hl [2, 3, 4, 1, 0] rfl)
def p_X8_runAny_4 : Nat → Int32 → Int32 → Int32 → SS → Option (SS)
  | 0, _, _, _, _ => none
  | n + 1, v1, v2, v3, σ => let k4 := p_X8_runAny_4 n; if (σ.1 0 5) ≤ v3 then if v2 = 0 then p_X8_runAny_66 v1 v2 (-1) σ else oc (p_X8_draw_0 v2 σ) (fun r_63 => p_X8_runAny_66 v1 v2 r_63.1 r_63.2) else oi v3 48 (oi v1 160 (if (σ.1 6 v3.toNatClampNeg) = (σ.1 13 v1.toNatClampNeg) then oi v3 48 (oc (p_X8_canBeCalled_0 (σ.1 7 v3.toNatClampNeg)) (fun r_34 => if r_34 = 0 then p_X8_runAny_44 k4 v1 v3 v2 σ else p_X8_runAny_45 k4 v1 v3 1 v2 σ)) else p_X8_runAny_44 k4 v1 v3 v2 σ))
set_option maxHeartbeats 4000000 in
set_option maxRecDepth 100000 in
theorem w_X8_runAny_4 {p : Program} {l : Launch} {e : Env} {R : Room} {s : State} {m : MethodId} {args : Array Value} {below : List Frame} {meth : Method} {c : Code} {D : va_G} {ad : Nat → Nat} {cI cJ cZ : ClassId} {res : SS} (hm : mx p s m args meth c cX8_runAny 5 none wsX8_runAny RX8) (hR : 1 ≤ R.frames ∧ 23 ≤ R.locals) (hK : va_K D vwCl (tyw cI cJ cZ) s) (hD : ∀ σ, va_D (aM ad) (wM ad cI cJ cZ σ)) : ∀ (n : Nat) (v1 : Int32) (v2 : Int32) (v3 : Int32) (σ : SS), p_X8_runAny_4 n v1 v2 v3 σ = some res → ∀ (H : Heap) (locs : List Loc) (ls : Array Slot), va_P D vwCl (wM ad cI cJ cZ σ) H → va_S (aM ad) s.heap H locs → lv_has ls 5 [(0, .ref (ad 0)), (1, .int v1), (2, .int v2), (3, .int v3)] → W p l e R s m args below meth c H locs 0 0 (MQ below (va_Qv (fun (u : SS) => u = res) (fun u t => va_P D vwCl (wM ad cI cJ cZ u) t.heap) (aM ad)) args s 0 0 (aM ad)) (F0 m 4 ls []) := by
  obtain ⟨hx, hb, hr, hml, hown, hts, hlk⟩ := id hm
  intro n
  induction n with
  | zero =>
    intro _ _ _ _ hf
    cases hf
  | succ n hk4 =>
    intro v1 v2 v3 σ hf H locs ls hP hS hl
    rw [p_X8_runAny_4] at hf
    try dsimp only at hf
    refine lv_iload_n hx hb dX8_runAny_4 rfl (lv_at hl 3 rfl) ?_
    refine lv_aload_n hx hb dX8_runAny_5 rfl (lv_at hl 0 rfl) ?_
    refine va_get (D := D) (ci := 7) (v := .int (σ.1 0 5)) (C := RX8) (T := TX8) (N := 50) hx hb hts in_X8_runAny_X8 hown hK hP 0 (wM_0 _ _ _ _ _) rfl 5 (by decide) (hts (.fieldLink RX8 131 "CallGraphsModel" "members" "I") (List.mem_of_getElem? (i := 1) rfl)) (fun _ h9 => h9) (fM_0_5 _ _) dX8_runAny_6 ?_
    refine lv_icmp_ge (tgt := 53) hx hb dX8_runAny_9 (by decide) (fun c_9 => ?_) (fun c_9 => ?_)
    · rw [if_pos c_9] at hf
      refine lv_iload_n hx hb dX8_runAny_53 rfl (lv_at hl 2 rfl) ?_
      refine lv_if_ne (tgt := 61) hx hb dX8_runAny_54 (by decide) (fun c_54 => ?_) (fun c_54 => ?_)
      · rw [if_neg c_54] at hf
        refine lv_aload_n hx hb dX8_runAny_61 rfl (lv_at hl 0 rfl) ?_
        refine lv_iload_n hx hb dX8_runAny_62 rfl (lv_at hl 2 rfl) ?_
        obtain ⟨r_63, hg_63, hf⟩ := oc_e hf
        refine mV_wi (wd := wM ad cI cJ cZ) (σ := σ) (As := [.int v2]) (rest := []) ⟨hx, hb, hml, hown, hts⟩ hK hP hD hS (c_X8_draw l D ad cI cJ cZ σ v2 hg_63) (cwV 1 hts gX8_runAny_X8_draw rfl rfl rfl hd_X8_draw ⟨Nat.le_trans (Nat.le_of_ble_eq_true rfl) hR.1, Nat.le_trans (Nat.le_of_ble_eq_true rfl) hR.2⟩) rfl (wM_0 _ _ _ _ _) rfl hl.1 rfl (Nat.le_of_ble_eq_true rfl) dX8_runAny_63 (fun H locs hP hS => ?_)
        exact w_X8_runAny_66 hm hR hK hD v1 v2 r_63.1 r_63.2 hf _ _ _ hP hS (lv_sub hl [0, 1, 2] rfl)
      · rw [if_pos c_54] at hf
        refine lv_iconst (v := (-1)) hx hb dX8_runAny_57 (by decide) ?_
        refine lv_goto (tgt := 66) hx hb dX8_runAny_58 (by decide) ?_
        exact w_X8_runAny_66 hm hR hK hD v1 v2 (-1) σ hf _ _ _ hP hS (lv_sub hl [0, 1, 2] rfl)
    · rw [if_neg c_9] at hf
      refine lv_iload_n hx hb dX8_runAny_12 rfl (lv_at hl 2 rfl) ?_
      refine lv_aload_n hx hb dX8_runAny_13 rfl (lv_at hl 0 rfl) ?_
      refine va_get (D := D) (ci := 7) (v := .ref (ad 6)) (C := RX8) (T := TX8) (N := 50) hx hb hts in_X8_runAny_X8 hown hK hP 0 (wM_0 _ _ _ _ _) rfl 7 (by decide) (hts (.fieldLink RX8 25 "CallGraphsModel" "nameOf" "[I") (List.mem_of_getElem? (i := 2) rfl)) (fun _ h9 => h9) (fM_0_7 _ _) dX8_runAny_14 ?_
      refine lv_iload_n hx hb dX8_runAny_17 rfl (lv_at hl 3 rfl) ?_
      obtain ⟨h_18, hf⟩ := oi_e hf
      refine va_iald hx hb hK hP 6 0 (wM_6 _ _ _ _ _) rfl h_18 dX8_runAny_18 ?_
      refine lv_aload_n hx hb dX8_runAny_19 rfl (lv_at hl 0 rfl) ?_
      refine va_get (D := D) (ci := 7) (v := .ref (ad 13)) (C := RX8) (T := TX8) (N := 50) hx hb hts in_X8_runAny_X8 hown hK hP 0 (wM_0 _ _ _ _ _) rfl 15 (by decide) (hts (.fieldLink RX8 47 "CallGraphsModel" "opB" "[I") (List.mem_of_getElem? (i := 3) rfl)) (fun _ h9 => h9) (fM_0_15 _ _) dX8_runAny_20 ?_
      refine lv_iload_n hx hb dX8_runAny_23 rfl (lv_at hl 1 rfl) ?_
      obtain ⟨h_24, hf⟩ := oi_e hf
      refine va_iald hx hb hK hP 13 0 (wM_13 _ _ _ _ _) rfl h_24 dX8_runAny_24 ?_
      refine lv_icmp_ne (tgt := 44) hx hb dX8_runAny_25 (by decide) (fun c_25 => ?_) (fun c_25 => ?_)
      · rw [if_neg c_25] at hf
        exact w_X8_runAny_44 hm hR hK hD (p_X8_runAny_4 n) hk4 v1 v3 v2 σ hf _ _ _ hP hS (lv_sub hl [0, 1, 3] rfl)
      · rw [if_pos c_25] at hf
        refine lv_aload_n hx hb dX8_runAny_28 rfl (lv_at hl 0 rfl) ?_
        refine va_get (D := D) (ci := 7) (v := .ref (ad 7)) (C := RX8) (T := TX8) (N := 50) hx hb hts in_X8_runAny_X8 hown hK hP 0 (wM_0 _ _ _ _ _) rfl 8 (by decide) (hts (.fieldLink RX8 28 "CallGraphsModel" "sortOf" "[I") (List.mem_of_getElem? (i := 4) rfl)) (fun _ h9 => h9) (fM_0_8 _ _) dX8_runAny_29 ?_
        refine lv_iload_n hx hb dX8_runAny_32 rfl (lv_at hl 3 rfl) ?_
        obtain ⟨h_33, hf⟩ := oi_e hf
        refine va_iald hx hb hK hP 7 0 (wM_7 _ _ _ _ _) rfl h_33 dX8_runAny_33 ?_
        obtain ⟨r_34, hg_34, hf⟩ := oc_e hf
        refine mS_i (D := D) (As := [.int (σ.1 7 v3.toNatClampNeg)]) (rest := [.int v2]) ⟨hx, hb, hml, hown, hts⟩ hP hS (c_X8_canBeCalled l (σ.1 7 v3.toNatClampNeg) hg_34) (va_cwS 1 hts gX8_runAny_X8_canBeCalled rfl rfl rfl hd_X8_canBeCalled ⟨Nat.le_trans (Nat.le_of_ble_eq_true rfl) hR.1, Nat.le_trans (Nat.le_of_ble_eq_true rfl) hR.2⟩) rfl hl.1 rfl (Nat.le_of_ble_eq_true rfl) dX8_runAny_34 (fun H locs hP hS => ?_)
        refine lv_if_eq (tgt := 44) hx hb dX8_runAny_37 (by decide) (fun c_37 => ?_) (fun c_37 => ?_)
        · rw [if_pos c_37] at hf
          exact w_X8_runAny_44 hm hR hK hD (p_X8_runAny_4 n) hk4 v1 v3 v2 σ hf _ _ _ hP hS (lv_sub hl [0, 1, 3] rfl)
        · rw [if_neg c_37] at hf
          refine lv_iconst (v := 1) hx hb dX8_runAny_40 (by decide) ?_
          refine lv_goto (tgt := 45) hx hb dX8_runAny_41 (by decide) ?_
          exact w_X8_runAny_45 hm hR hK hD (p_X8_runAny_4 n) hk4 v1 v3 1 v2 σ hf _ _ _ hP hS (lv_sub hl [0, 1, 3] rfl)
def p_X8_runAny_0 (v1 : Int32) (σ : SS) : Option (SS) := p_X8_runAny_4 100000 v1 0 0 σ
set_option maxHeartbeats 4000000 in
set_option maxRecDepth 100000 in
theorem w_X8_runAny_0 {p : Program} {l : Launch} {e : Env} {R : Room} {s : State} {m : MethodId} {args : Array Value} {below : List Frame} {meth : Method} {c : Code} {D : va_G} {ad : Nat → Nat} {cI cJ cZ : ClassId} {res : SS} (hm : mx p s m args meth c cX8_runAny 5 none wsX8_runAny RX8) (hR : 1 ≤ R.frames ∧ 23 ≤ R.locals) (hK : va_K D vwCl (tyw cI cJ cZ) s) (hD : ∀ σ, va_D (aM ad) (wM ad cI cJ cZ σ)) (v1 : Int32) (σ : SS) (hf : p_X8_runAny_0 v1 σ = some res) (H : Heap) (locs : List Loc) (ls : Array Slot) (hP : va_P D vwCl (wM ad cI cJ cZ σ) H) (hS : va_S (aM ad) s.heap H locs) (hl : lv_has ls 5 [(0, .ref (ad 0)), (1, .int v1)]) : W p l e R s m args below meth c H locs 0 0 (MQ below (va_Qv (fun (u : SS) => u = res) (fun u t => va_P D vwCl (wM ad cI cJ cZ u) t.heap) (aM ad)) args s 0 0 (aM ad)) (F0 m 0 ls []) := by
  obtain ⟨hx, hb, hr, hml, hown, hts, hlk⟩ := id hm
  unfold p_X8_runAny_0 at hf
  refine lv_iconst (v := 0) hx hb dX8_runAny_0 (by decide) ?_
  refine lv_istore_n (lv' := [(2, .int 0), (0, .ref (ad 0)), (1, .int v1)]) hx hb dX8_runAny_1 rfl hl (by decide) rfl (fun ls hl => ?_)
  refine lv_iconst (v := 0) hx hb dX8_runAny_2 (by decide) ?_
  refine lv_istore_n (lv' := [(3, .int 0), (2, .int 0), (0, .ref (ad 0)), (1, .int v1)]) hx hb dX8_runAny_3 rfl hl (by decide) rfl (fun ls hl => ?_)
  exact w_X8_runAny_4 hm hR hK hD 100000 v1 0 0 σ hf _ _ _ hP hS (lv_sub hl [2, 3, 1, 0] rfl)
theorem hd_X8_runAny : yX8_runAny.cls = RX8 ∧ yX8_runAny.cls ≠ "java/lang/invoke/MethodHandle" ∧ yX8_runAny.cls ≠ "java/lang/invoke/VarHandle" ∧ (parseMethodDescriptor yX8_runAny.desc).map (fun d => d.parameters.length) = some 1 := by decide +kernel
set_option maxHeartbeats 4000000 in
set_option maxRecDepth 100000 in
theorem c_X8_runAny (l : Launch) (D : va_G) (ad : Nat → Nat) (cI cJ cZ : ClassId) (σ : SS) (v1 : Int32) {res : SS} (hf : p_X8_runAny_0 v1 σ = some res) : Met l yX8_runAny wsX8_runAny ({ frames := 1, cells := 0, slots := 0, locals := 23 } : Room) (PW D (tyw cI cJ cZ) (wM ad cI cJ cZ σ) [.ref (ad 0), .int v1]) (va_Qv (fun (u : SS) => u = res) (fun u t => va_P D vwCl (wM ad cI cJ cZ u) t.heap) (aM ad)) 0 0 (aM ad) := by
  refine Met.ofW (cc := cX8_runAny) (maxL := 5) (ret := none) (by decide) rfl ?_
  intro p e s m args below meth c s₁ B hml hv
  obtain ⟨rfl, hP, hK, hD0⟩ := hv
  have hD : ∀ σ, va_D (aM ad) (wM ad cI cJ cZ σ) := fun σ => wd_D hD0 (wM_map _ _ _ _ _) (wM_map _ _ _ _ _)
  have hm : mx p s m _ meth c cX8_runAny 5 none wsX8_runAny RX8 := ⟨B.exec, B.bytes, B.returns, hml, findClass_of_methodNamed B.named, atoms_spec (ws := wsX8_runAny) B.pre, B.notSynchronized⟩
  have hl := lv_entry ([.ref (ad 0), .int v1]) (n := 5) (Nat.le_of_ble_eq_true rfl)
  rw [lg_entry_eq]
  generalize (lg_sl ([.ref (ad 0), .int v1]) ++ List.replicate (5 - (lg_sl ([.ref (ad 0), .int v1])).length) Slot.unset).toArray = ls at hl ⊢
  exact w_X8_runAny_0 hm ⟨Nat.le_refl _, Nat.le_refl _⟩ hK hD v1 σ hf _ _ _ hP va_S.rf hl
/-! CallGraphsModel.runOp(I)V -/
theorem in_X8_runOp_X8 : ∀ w ∈ u_ws RX8 TX8 50, w ∈ wsX8_runOp := fun w h => List.mem_cons_of_mem _ (List.mem_append_right _ h)
def p_X8_runOp_202 (k165 : Int32 → Int32 → Int32 → Int32 → SS → Option (SS)) (v2 : Int32) (v3 : Int32) (v6 : Int32) (t0 : Int32) (σ : SS) : Option (SS) := k165 v2 v3 t0 (v6 + 1) σ
set_option maxHeartbeats 4000000 in
set_option maxRecDepth 100000 in
theorem w_X8_runOp_202 {p : Program} {l : Launch} {e : Env} {R : Room} {s : State} {m : MethodId} {args : Array Value} {below : List Frame} {meth : Method} {c : Code} {D : va_G} {ad : Nat → Nat} {cI cJ cZ : ClassId} {res : SS} (hm : mx p s m args meth c cX8_runOp 7 none wsX8_runOp RX8) (hR : 6 ≤ R.frames ∧ 150 ≤ R.locals) (hK : va_K D vwCl (tyw cI cJ cZ) s) (hD : ∀ σ, va_D (aM ad) (wM ad cI cJ cZ σ)) (k165 : Int32 → Int32 → Int32 → Int32 → SS → Option (SS)) (hk165 : ∀ (v2 : Int32) (v3 : Int32) (v5 : Int32) (v6 : Int32) (σ : SS), k165 v2 v3 v5 v6 σ = some res → ∀ (H : Heap) (locs : List Loc) (ls : Array Slot), va_P D vwCl (wM ad cI cJ cZ σ) H → va_S (aM ad) s.heap H locs → lv_has ls 7 [(0, .ref (ad 0)), (2, .int v2), (3, .int v3), (5, .int v5), (6, .int v6)] → W p l e R s m args below meth c H locs 0 0 (MQ below (va_Qv (fun (u : SS) => u = res) (fun u t => va_P D vwCl (wM ad cI cJ cZ u) t.heap) (aM ad)) args s 0 0 (aM ad)) (F0 m 165 ls [])) (v2 : Int32) (v3 : Int32) (v6 : Int32) (t0 : Int32) (σ : SS) (hf : p_X8_runOp_202 k165 v2 v3 v6 t0 σ = some res) (H : Heap) (locs : List Loc) (ls : Array Slot) (hP : va_P D vwCl (wM ad cI cJ cZ σ) H) (hS : va_S (aM ad) s.heap H locs) (hl : lv_has ls 7 [(0, .ref (ad 0)), (2, .int v2), (3, .int v3), (6, .int v6)]) : W p l e R s m args below meth c H locs 0 0 (MQ below (va_Qv (fun (u : SS) => u = res) (fun u t => va_P D vwCl (wM ad cI cJ cZ u) t.heap) (aM ad)) args s 0 0 (aM ad)) (F0 m 202 ls [.int t0]) := by
  obtain ⟨hx, hb, hr, hml, hown, hts, hlk⟩ := id hm
  unfold p_X8_runOp_202 at hf
  refine lv_istore (lv' := [(5, .int t0), (0, .ref (ad 0)), (2, .int v2), (3, .int v3), (6, .int v6)]) hx hb dX8_runOp_202 hl (by decide) rfl (fun ls hl => ?_)
  refine lv_iinc (v := (v6 + 1)) (lv' := [(6, .int (v6 + 1)), (5, .int t0), (0, .ref (ad 0)), (2, .int v2), (3, .int v3)]) hx hb dX8_runOp_204 hl (k := 4) rfl rfl (by decide) rfl (fun ls hl => ?_)
  refine lv_goto (tgt := 165) hx hb dX8_runOp_207 (by decide) ?_
  exact hk165 v2 v3 t0 (v6 + 1) σ hf _ _ _ hP hS (lv_sub hl [2, 3, 4, 1, 0] rfl)
def p_X8_runOp_197 (k165 : Int32 → Int32 → Int32 → Int32 → SS → Option (SS)) (v2 : Int32) (v3 : Int32) (v6 : Int32) (σ : SS) : Option (SS) := p_X8_runOp_202 k165 v2 v3 v6 1 σ
set_option maxHeartbeats 4000000 in
set_option maxRecDepth 100000 in
theorem w_X8_runOp_197 {p : Program} {l : Launch} {e : Env} {R : Room} {s : State} {m : MethodId} {args : Array Value} {below : List Frame} {meth : Method} {c : Code} {D : va_G} {ad : Nat → Nat} {cI cJ cZ : ClassId} {res : SS} (hm : mx p s m args meth c cX8_runOp 7 none wsX8_runOp RX8) (hR : 6 ≤ R.frames ∧ 150 ≤ R.locals) (hK : va_K D vwCl (tyw cI cJ cZ) s) (hD : ∀ σ, va_D (aM ad) (wM ad cI cJ cZ σ)) (k165 : Int32 → Int32 → Int32 → Int32 → SS → Option (SS)) (hk165 : ∀ (v2 : Int32) (v3 : Int32) (v5 : Int32) (v6 : Int32) (σ : SS), k165 v2 v3 v5 v6 σ = some res → ∀ (H : Heap) (locs : List Loc) (ls : Array Slot), va_P D vwCl (wM ad cI cJ cZ σ) H → va_S (aM ad) s.heap H locs → lv_has ls 7 [(0, .ref (ad 0)), (2, .int v2), (3, .int v3), (5, .int v5), (6, .int v6)] → W p l e R s m args below meth c H locs 0 0 (MQ below (va_Qv (fun (u : SS) => u = res) (fun u t => va_P D vwCl (wM ad cI cJ cZ u) t.heap) (aM ad)) args s 0 0 (aM ad)) (F0 m 165 ls [])) (v2 : Int32) (v3 : Int32) (v6 : Int32) (σ : SS) (hf : p_X8_runOp_197 k165 v2 v3 v6 σ = some res) (H : Heap) (locs : List Loc) (ls : Array Slot) (hP : va_P D vwCl (wM ad cI cJ cZ σ) H) (hS : va_S (aM ad) s.heap H locs) (hl : lv_has ls 7 [(0, .ref (ad 0)), (2, .int v2), (3, .int v3), (6, .int v6)]) : W p l e R s m args below meth c H locs 0 0 (MQ below (va_Qv (fun (u : SS) => u = res) (fun u t => va_P D vwCl (wM ad cI cJ cZ u) t.heap) (aM ad)) args s 0 0 (aM ad)) (F0 m 197 ls []) := by
  obtain ⟨hx, hb, hr, hml, hown, hts, hlk⟩ := id hm
  unfold p_X8_runOp_197 at hf
  refine lv_iconst (v := 1) hx hb dX8_runOp_197 (by decide) ?_
  refine lv_goto (tgt := 202) hx hb dX8_runOp_198 (by decide) ?_
  exact w_X8_runOp_202 hm hR hK hD k165 hk165 v2 v3 v6 1 σ hf _ _ _ hP hS (lv_sub hl [0, 1, 2, 3] rfl)
def p_X8_runOp_296 (σ : SS) : Option (SS) := some σ
set_option maxHeartbeats 4000000 in
set_option maxRecDepth 100000 in
theorem w_X8_runOp_296 {p : Program} {l : Launch} {e : Env} {R : Room} {s : State} {m : MethodId} {args : Array Value} {below : List Frame} {meth : Method} {c : Code} {D : va_G} {ad : Nat → Nat} {cI cJ cZ : ClassId} {res : SS} (hm : mx p s m args meth c cX8_runOp 7 none wsX8_runOp RX8) (hR : 6 ≤ R.frames ∧ 150 ≤ R.locals) (hK : va_K D vwCl (tyw cI cJ cZ) s) (hD : ∀ σ, va_D (aM ad) (wM ad cI cJ cZ σ)) (σ : SS) (hf : p_X8_runOp_296 σ = some res) (H : Heap) (locs : List Loc) (ls : Array Slot) (hP : va_P D vwCl (wM ad cI cJ cZ σ) H) (hS : va_S (aM ad) s.heap H locs) (hl : lv_has ls 7 []) : W p l e R s m args below meth c H locs 0 0 (MQ below (va_Qv (fun (u : SS) => u = res) (fun u t => va_P D vwCl (wM ad cI cJ cZ u) t.heap) (aM ad)) args s 0 0 (aM ad)) (F0 m 296 ls []) := by
  obtain ⟨hx, hb, hr, hml, hown, hts, hlk⟩ := id hm
  unfold p_X8_runOp_296 at hf
  exact rt_v (wd := wM ad cI cJ cZ) hx hb hr hlk (Option.some.inj hf) hP hS dX8_runOp_296
def p_X8_runOp_165 : Nat → Int32 → Int32 → Int32 → Int32 → SS → Option (SS)
  | 0, _, _, _, _, _ => none
  | n + 1, v2, v3, v5, v6, σ => let k165 := p_X8_runOp_165 n; oi v2 4 (if (σ.1 36 v2.toNatClampNeg) ≤ v6 then if v5 = 0 then oi v2 4 (oi ((48 * v2) + (σ.1 36 v2.toNatClampNeg)) 192 (os (sI σ 35 (((48 * v2) + (σ.1 36 v2.toNatClampNeg)).toNatClampNeg) v3) (fun s_231 => oi v2 4 (oi v2 4 (os (sI s_231 36 (v2.toNatClampNeg) ((s_231.1 36 v2.toNatClampNeg) + 1)) (fun s_241 => p_X8_runOp_296 s_241)))))) else p_X8_runOp_296 σ else if v5 = 0 then oi ((48 * v2) + v6) 192 (if (σ.1 35 ((48 * v2) + v6).toNatClampNeg) = v3 then p_X8_runOp_197 k165 v2 v3 v6 σ else p_X8_runOp_202 k165 v2 v3 v6 0 σ) else p_X8_runOp_197 k165 v2 v3 v6 σ)
set_option maxHeartbeats 4000000 in
set_option maxRecDepth 100000 in
theorem w_X8_runOp_165 {p : Program} {l : Launch} {e : Env} {R : Room} {s : State} {m : MethodId} {args : Array Value} {below : List Frame} {meth : Method} {c : Code} {D : va_G} {ad : Nat → Nat} {cI cJ cZ : ClassId} {res : SS} (hm : mx p s m args meth c cX8_runOp 7 none wsX8_runOp RX8) (hR : 6 ≤ R.frames ∧ 150 ≤ R.locals) (hK : va_K D vwCl (tyw cI cJ cZ) s) (hD : ∀ σ, va_D (aM ad) (wM ad cI cJ cZ σ)) : ∀ (n : Nat) (v2 : Int32) (v3 : Int32) (v5 : Int32) (v6 : Int32) (σ : SS), p_X8_runOp_165 n v2 v3 v5 v6 σ = some res → ∀ (H : Heap) (locs : List Loc) (ls : Array Slot), va_P D vwCl (wM ad cI cJ cZ σ) H → va_S (aM ad) s.heap H locs → lv_has ls 7 [(0, .ref (ad 0)), (2, .int v2), (3, .int v3), (5, .int v5), (6, .int v6)] → W p l e R s m args below meth c H locs 0 0 (MQ below (va_Qv (fun (u : SS) => u = res) (fun u t => va_P D vwCl (wM ad cI cJ cZ u) t.heap) (aM ad)) args s 0 0 (aM ad)) (F0 m 165 ls []) := by
  obtain ⟨hx, hb, hr, hml, hown, hts, hlk⟩ := id hm
  intro n
  induction n with
  | zero =>
    intro _ _ _ _ _ hf
    cases hf
  | succ n hk165 =>
    intro v2 v3 v5 v6 σ hf H locs ls hP hS hl
    rw [p_X8_runOp_165] at hf
    try dsimp only at hf
    refine lv_iload hx hb dX8_runOp_165 (lv_at hl 4 rfl) ?_
    refine lv_aload_n hx hb dX8_runOp_167 rfl (lv_at hl 0 rfl) ?_
    refine va_get (D := D) (ci := 7) (v := .ref (ad 36)) (C := RX8) (T := TX8) (N := 50) hx hb hts in_X8_runOp_X8 hown hK hP 0 (wM_0 _ _ _ _ _) rfl 49 (by decide) (hts (.fieldLink RX8 116 "CallGraphsModel" "bagMany" "[I") (List.mem_of_getElem? (i := 6) rfl)) (fun _ h9 => h9) (fM_0_49 _ _) dX8_runOp_168 ?_
    refine lv_iload_n hx hb dX8_runOp_171 rfl (lv_at hl 1 rfl) ?_
    obtain ⟨h_172, hf⟩ := oi_e hf
    refine va_iald hx hb hK hP 36 0 (wM_36 _ _ _ _ _) rfl h_172 dX8_runOp_172 ?_
    refine lv_icmp_ge (tgt := 210) hx hb dX8_runOp_173 (by decide) (fun c_173 => ?_) (fun c_173 => ?_)
    · rw [if_pos c_173] at hf
      refine lv_iload hx hb dX8_runOp_210 (lv_at hl 3 rfl) ?_
      refine lv_if_ne (tgt := 296) hx hb dX8_runOp_212 (by decide) (fun c_212 => ?_) (fun c_212 => ?_)
      · rw [if_neg c_212] at hf
        exact w_X8_runOp_296 hm hR hK hD σ hf _ _ _ hP hS (lv_sub hl [] rfl)
      · rw [if_pos c_212] at hf
        refine lv_aload_n hx hb dX8_runOp_215 rfl (lv_at hl 0 rfl) ?_
        refine va_get (D := D) (ci := 7) (v := .ref (ad 35)) (C := RX8) (T := TX8) (N := 50) hx hb hts in_X8_runOp_X8 hown hK hP 0 (wM_0 _ _ _ _ _) rfl 48 (by decide) (hts (.fieldLink RX8 113 "CallGraphsModel" "bag" "[I") (List.mem_of_getElem? (i := 7) rfl)) (fun _ h9 => h9) (fM_0_48 _ _) dX8_runOp_216 ?_
        refine lv_bipush (v := 48) hx hb dX8_runOp_219 (by decide) ?_
        refine lv_iload_n hx hb dX8_runOp_221 rfl (lv_at hl 1 rfl) ?_
        refine lv_imul hx hb dX8_runOp_222 ?_
        refine lv_aload_n hx hb dX8_runOp_223 rfl (lv_at hl 0 rfl) ?_
        refine va_get (D := D) (ci := 7) (v := .ref (ad 36)) (C := RX8) (T := TX8) (N := 50) hx hb hts in_X8_runOp_X8 hown hK hP 0 (wM_0 _ _ _ _ _) rfl 49 (by decide) (hts (.fieldLink RX8 116 "CallGraphsModel" "bagMany" "[I") (List.mem_of_getElem? (i := 6) rfl)) (fun _ h9 => h9) (fM_0_49 _ _) dX8_runOp_224 ?_
        refine lv_iload_n hx hb dX8_runOp_227 rfl (lv_at hl 1 rfl) ?_
        obtain ⟨h_228, hf⟩ := oi_e hf
        refine va_iald hx hb hK hP 36 0 (wM_36 _ _ _ _ _) rfl h_228 dX8_runOp_228 ?_
        refine lv_iadd hx hb dX8_runOp_229 ?_
        refine lv_iload_n hx hb dX8_runOp_230 rfl (lv_at hl 2 rfl) ?_
        obtain ⟨h_231, hf⟩ := oi_e hf
        refine va_iast hx hb hK hP (hD _) hS 35 0 (wM_35 _ _ _ _ _) rfl h_231 dX8_runOp_231 (fun H locs hP _ hS => ?_)
        have hP := wM_s35 hP
        obtain ⟨s_231, es_231, hf⟩ := os_e hf
        rw [← es_231] at hP
        refine lv_aload_n hx hb dX8_runOp_232 rfl (lv_at hl 0 rfl) ?_
        refine va_get (D := D) (ci := 7) (v := .ref (ad 36)) (C := RX8) (T := TX8) (N := 50) hx hb hts in_X8_runOp_X8 hown hK hP 0 (wM_0 _ _ _ _ _) rfl 49 (by decide) (hts (.fieldLink RX8 116 "CallGraphsModel" "bagMany" "[I") (List.mem_of_getElem? (i := 6) rfl)) (fun _ h9 => h9) (fM_0_49 _ _) dX8_runOp_233 ?_
        refine lv_iload_n hx hb dX8_runOp_236 rfl (lv_at hl 1 rfl) ?_
        refine lv_dup2_11 hx hb dX8_runOp_237 rfl rfl ?_
        obtain ⟨h_238, hf⟩ := oi_e hf
        refine va_iald hx hb hK hP 36 0 (wM_36 _ _ _ _ _) rfl h_238 dX8_runOp_238 ?_
        refine lv_iconst (v := 1) hx hb dX8_runOp_239 (by decide) ?_
        refine lv_iadd hx hb dX8_runOp_240 ?_
        obtain ⟨h_241, hf⟩ := oi_e hf
        refine va_iast hx hb hK hP (hD _) hS 36 0 (wM_36 _ _ _ _ _) rfl h_241 dX8_runOp_241 (fun H locs hP _ hS => ?_)
        have hP := wM_s36 hP
        obtain ⟨s_241, es_241, hf⟩ := os_e hf
        rw [← es_241] at hP
        refine lv_goto (tgt := 296) hx hb dX8_runOp_242 (by decide) ?_
        exact w_X8_runOp_296 hm hR hK hD s_241 hf _ _ _ hP hS (lv_sub hl [] rfl)
    · rw [if_neg c_173] at hf
      refine lv_iload hx hb dX8_runOp_176 (lv_at hl 3 rfl) ?_
      refine lv_if_ne (tgt := 197) hx hb dX8_runOp_178 (by decide) (fun c_178 => ?_) (fun c_178 => ?_)
      · rw [if_neg c_178] at hf
        exact w_X8_runOp_197 hm hR hK hD (p_X8_runOp_165 n) hk165 v2 v3 v6 σ hf _ _ _ hP hS (lv_sub hl [0, 1, 2, 4] rfl)
      · rw [if_pos c_178] at hf
        refine lv_aload_n hx hb dX8_runOp_181 rfl (lv_at hl 0 rfl) ?_
        refine va_get (D := D) (ci := 7) (v := .ref (ad 35)) (C := RX8) (T := TX8) (N := 50) hx hb hts in_X8_runOp_X8 hown hK hP 0 (wM_0 _ _ _ _ _) rfl 48 (by decide) (hts (.fieldLink RX8 113 "CallGraphsModel" "bag" "[I") (List.mem_of_getElem? (i := 7) rfl)) (fun _ h9 => h9) (fM_0_48 _ _) dX8_runOp_182 ?_
        refine lv_bipush (v := 48) hx hb dX8_runOp_185 (by decide) ?_
        refine lv_iload_n hx hb dX8_runOp_187 rfl (lv_at hl 1 rfl) ?_
        refine lv_imul hx hb dX8_runOp_188 ?_
        refine lv_iload hx hb dX8_runOp_189 (lv_at hl 4 rfl) ?_
        refine lv_iadd hx hb dX8_runOp_191 ?_
        obtain ⟨h_192, hf⟩ := oi_e hf
        refine va_iald hx hb hK hP 35 0 (wM_35 _ _ _ _ _) rfl h_192 dX8_runOp_192 ?_
        refine lv_iload_n hx hb dX8_runOp_193 rfl (lv_at hl 2 rfl) ?_
        refine lv_icmp_ne (tgt := 201) hx hb dX8_runOp_194 (by decide) (fun c_194 => ?_) (fun c_194 => ?_)
        · rw [if_neg c_194] at hf
          refine lv_iconst (v := 0) hx hb dX8_runOp_201 (by decide) ?_
          exact w_X8_runOp_202 hm hR hK hD (p_X8_runOp_165 n) hk165 v2 v3 v6 0 σ hf _ _ _ hP hS (lv_sub hl [0, 1, 2, 4] rfl)
        · rw [if_pos c_194] at hf
          exact w_X8_runOp_197 hm hR hK hD (p_X8_runOp_165 n) hk165 v2 v3 v6 σ hf _ _ _ hP hS (lv_sub hl [0, 1, 2, 4] rfl)
def p_X8_runOp_291 (v1 : Int32) (σ : SS) : Option (SS) := oc (p_X8_runCall_0 v1 σ) (fun r_293 => p_X8_runOp_296 r_293)
set_option maxHeartbeats 4000000 in
set_option maxRecDepth 100000 in
theorem w_X8_runOp_291 {p : Program} {l : Launch} {e : Env} {R : Room} {s : State} {m : MethodId} {args : Array Value} {below : List Frame} {meth : Method} {c : Code} {D : va_G} {ad : Nat → Nat} {cI cJ cZ : ClassId} {res : SS} (hm : mx p s m args meth c cX8_runOp 7 none wsX8_runOp RX8) (hR : 6 ≤ R.frames ∧ 150 ≤ R.locals) (hK : va_K D vwCl (tyw cI cJ cZ) s) (hD : ∀ σ, va_D (aM ad) (wM ad cI cJ cZ σ)) (v1 : Int32) (σ : SS) (hf : p_X8_runOp_291 v1 σ = some res) (H : Heap) (locs : List Loc) (ls : Array Slot) (hP : va_P D vwCl (wM ad cI cJ cZ σ) H) (hS : va_S (aM ad) s.heap H locs) (hl : lv_has ls 7 [(0, .ref (ad 0)), (1, .int v1)]) : W p l e R s m args below meth c H locs 0 0 (MQ below (va_Qv (fun (u : SS) => u = res) (fun u t => va_P D vwCl (wM ad cI cJ cZ u) t.heap) (aM ad)) args s 0 0 (aM ad)) (F0 m 291 ls []) := by
  obtain ⟨hx, hb, hr, hml, hown, hts, hlk⟩ := id hm
  unfold p_X8_runOp_291 at hf
  refine lv_aload_n hx hb dX8_runOp_291 rfl (lv_at hl 0 rfl) ?_
  refine lv_iload_n hx hb dX8_runOp_292 rfl (lv_at hl 1 rfl) ?_
  obtain ⟨r_293, hg_293, hf⟩ := oc_e hf
  refine mV_wv (wd := wM ad cI cJ cZ) (σ := σ) (As := [.int v1]) (rest := []) ⟨hx, hb, hml, hown, hts⟩ hK hP hD hS (c_X8_runCall l D ad cI cJ cZ σ v1 hg_293) (cwV 1 hts gX8_runOp_X8_runCall rfl rfl rfl hd_X8_runCall ⟨Nat.le_trans (Nat.le_of_ble_eq_true rfl) hR.1, Nat.le_trans (Nat.le_of_ble_eq_true rfl) hR.2⟩) rfl (wM_0 _ _ _ _ _) rfl hl.1 rfl (Nat.le_of_ble_eq_true rfl) dX8_runOp_293 (fun H locs hP hS => ?_)
  exact w_X8_runOp_296 hm hR hK hD r_293 hf _ _ _ hP hS (lv_sub hl [] rfl)
def p_X8_runOp_0 (v1 : Int32) (σ : SS) : Option (SS) := oi v1 160 (oi v1 160 (oi v1 160 ((if (σ.1 11 v1.toNatClampNeg) = 0 then oc (p_X8_push_0 3 (σ.1 12 v1.toNatClampNeg) v1 σ) (fun r_72 => oc (p_X8_push_0 2 (σ.1 12 v1.toNatClampNeg) v1 r_72) (fun r_79 => p_X8_runOp_296 r_79)) else if (σ.1 11 v1.toNatClampNeg) = 1 then p_X8_runOp_291 v1 σ else if (σ.1 11 v1.toNatClampNeg) = 2 then oc (p_X8_chosenOf_0 (σ.1 12 v1.toNatClampNeg) (σ.1 12 v1.toNatClampNeg) (σ.1 13 v1.toNatClampNeg) σ) (fun r_89 => if r_89.1 < 0 then p_X8_runOp_296 r_89.2 else oc (p_X8_push_0 1 r_89.1 v1 r_89.2) (fun r_104 => p_X8_runOp_296 r_104)) else if (σ.1 11 v1.toNatClampNeg) = 3 then oc (p_X8_find_0 (σ.1 12 v1.toNatClampNeg) (σ.1 13 v1.toNatClampNeg) σ) (fun r_113 => if r_113.1 = (-1) then p_X8_runOp_296 r_113.2 else oi r_113.1 48 (if (r_113.2.1 7 r_113.1.toNatClampNeg) = 2 then oc (p_X8_push_0 1 r_113.1 v1 r_113.2) (fun r_140 => oi r_113.1 48 (oc (p_X8_push_0 2 (r_140.1 5 r_113.1.toNatClampNeg) v1 r_140) (fun r_153 => p_X8_runOp_296 r_153))) else p_X8_runOp_296 r_113.2)) else if (σ.1 11 v1.toNatClampNeg) = 4 then p_X8_runOp_291 v1 σ else if (σ.1 11 v1.toNatClampNeg) = 5 then p_X8_runOp_165 100000 (σ.1 12 v1.toNatClampNeg) (σ.1 13 v1.toNatClampNeg) 0 0 σ else if (σ.1 11 v1.toNatClampNeg) = 6 then oi (σ.1 12 v1.toNatClampNeg) 4 (if (σ.1 36 (σ.1 12 v1.toNatClampNeg).toNatClampNeg) ≤ 0 then p_X8_runOp_296 σ else oi (σ.1 12 v1.toNatClampNeg) 4 (oc (p_X8_draw_0 (σ.1 36 (σ.1 12 v1.toNatClampNeg).toNatClampNeg) σ) (fun r_271 => oi ((48 * (σ.1 12 v1.toNatClampNeg)) + r_271.1) 192 (oc (p_X8_push_0 1 (r_271.2.1 35 ((48 * (σ.1 12 v1.toNatClampNeg)) + r_271.1).toNatClampNeg) v1 r_271.2) (fun r_277 => p_X8_runOp_296 r_277))))) else if (σ.1 11 v1.toNatClampNeg) = 7 then oc (p_X8_runAny_0 v1 σ) (fun r_285 => p_X8_runOp_296 r_285) else p_X8_runOp_291 v1 σ))))
set_option maxHeartbeats 4000000 in
set_option maxRecDepth 100000 in
theorem w_X8_runOp_0 {p : Program} {l : Launch} {e : Env} {R : Room} {s : State} {m : MethodId} {args : Array Value} {below : List Frame} {meth : Method} {c : Code} {D : va_G} {ad : Nat → Nat} {cI cJ cZ : ClassId} {res : SS} (hm : mx p s m args meth c cX8_runOp 7 none wsX8_runOp RX8) (hR : 6 ≤ R.frames ∧ 150 ≤ R.locals) (hK : va_K D vwCl (tyw cI cJ cZ) s) (hD : ∀ σ, va_D (aM ad) (wM ad cI cJ cZ σ)) (v1 : Int32) (σ : SS) (hf : p_X8_runOp_0 v1 σ = some res) (H : Heap) (locs : List Loc) (ls : Array Slot) (hP : va_P D vwCl (wM ad cI cJ cZ σ) H) (hS : va_S (aM ad) s.heap H locs) (hl : lv_has ls 7 [(0, .ref (ad 0)), (1, .int v1)]) : W p l e R s m args below meth c H locs 0 0 (MQ below (va_Qv (fun (u : SS) => u = res) (fun u t => va_P D vwCl (wM ad cI cJ cZ u) t.heap) (aM ad)) args s 0 0 (aM ad)) (F0 m 0 ls []) := by
  obtain ⟨hx, hb, hr, hml, hown, hts, hlk⟩ := id hm
  unfold p_X8_runOp_0 at hf
  refine lv_aload_n hx hb dX8_runOp_0 rfl (lv_at hl 0 rfl) ?_
  refine va_get (D := D) (ci := 7) (v := .ref (ad 12)) (C := RX8) (T := TX8) (N := 50) hx hb hts in_X8_runOp_X8 hown hK hP 0 (wM_0 _ _ _ _ _) rfl 14 (by decide) (hts (.fieldLink RX8 44 "CallGraphsModel" "opA" "[I") (List.mem_of_getElem? (i := 1) rfl)) (fun _ h9 => h9) (fM_0_14 _ _) dX8_runOp_1 ?_
  refine lv_iload_n hx hb dX8_runOp_4 rfl (lv_at hl 1 rfl) ?_
  obtain ⟨h_5, hf⟩ := oi_e hf
  refine va_iald hx hb hK hP 12 0 (wM_12 _ _ _ _ _) rfl h_5 dX8_runOp_5 ?_
  refine lv_istore_n (lv' := [(2, .int (σ.1 12 v1.toNatClampNeg)), (0, .ref (ad 0)), (1, .int v1)]) hx hb dX8_runOp_6 rfl hl (by decide) rfl (fun ls hl => ?_)
  refine lv_aload_n hx hb dX8_runOp_7 rfl (lv_at hl 1 rfl) ?_
  refine va_get (D := D) (ci := 7) (v := .ref (ad 13)) (C := RX8) (T := TX8) (N := 50) hx hb hts in_X8_runOp_X8 hown hK hP 0 (wM_0 _ _ _ _ _) rfl 15 (by decide) (hts (.fieldLink RX8 47 "CallGraphsModel" "opB" "[I") (List.mem_of_getElem? (i := 2) rfl)) (fun _ h9 => h9) (fM_0_15 _ _) dX8_runOp_8 ?_
  refine lv_iload_n hx hb dX8_runOp_11 rfl (lv_at hl 2 rfl) ?_
  obtain ⟨h_12, hf⟩ := oi_e hf
  refine va_iald hx hb hK hP 13 0 (wM_13 _ _ _ _ _) rfl h_12 dX8_runOp_12 ?_
  refine lv_istore_n (lv' := [(3, .int (σ.1 13 v1.toNatClampNeg)), (2, .int (σ.1 12 v1.toNatClampNeg)), (0, .ref (ad 0)), (1, .int v1)]) hx hb dX8_runOp_13 rfl hl (by decide) rfl (fun ls hl => ?_)
  refine lv_iconst (v := (-1)) hx hb dX8_runOp_14 (by decide) ?_
  refine lv_istore (lv' := [(4, .int (-1)), (3, .int (σ.1 13 v1.toNatClampNeg)), (2, .int (σ.1 12 v1.toNatClampNeg)), (0, .ref (ad 0)), (1, .int v1)]) hx hb dX8_runOp_15 hl (by decide) rfl (fun ls hl => ?_)
  refine lv_aload_n hx hb dX8_runOp_17 rfl (lv_at hl 3 rfl) ?_
  refine va_get (D := D) (ci := 7) (v := .ref (ad 11)) (C := RX8) (T := TX8) (N := 50) hx hb hts in_X8_runOp_X8 hown hK hP 0 (wM_0 _ _ _ _ _) rfl 13 (by decide) (hts (.fieldLink RX8 41 "CallGraphsModel" "opKind" "[I") (List.mem_of_getElem? (i := 3) rfl)) (fun _ h9 => h9) (fM_0_13 _ _) dX8_runOp_18 ?_
  refine lv_iload_n hx hb dX8_runOp_21 rfl (lv_at hl 4 rfl) ?_
  obtain ⟨h_22, hf⟩ := oi_e hf
  refine va_iald hx hb hK hP 11 0 (wM_11 _ _ _ _ _) rfl h_22 dX8_runOp_22 ?_
  by_cases c_23_0 : (σ.1 11 v1.toNatClampNeg) = 0
  · rw [if_pos c_23_0] at hf
    refine lv_tableIn (off := 45) (tgt := 68) hx hb dX8_runOp_23 (by rw [c_23_0]; decide) (by rw [c_23_0]; decide) (by rw [c_23_0]; rfl) (by decide) ?_
    refine lv_aload_n hx hb dX8_runOp_68 rfl (lv_at hl 3 rfl) ?_
    refine lv_iconst (v := 3) hx hb dX8_runOp_69 (by decide) ?_
    refine lv_iload_n hx hb dX8_runOp_70 rfl (lv_at hl 2 rfl) ?_
    refine lv_iload_n hx hb dX8_runOp_71 rfl (lv_at hl 4 rfl) ?_
    obtain ⟨r_72, hg_72, hf⟩ := oc_e hf
    refine mV_wv (wd := wM ad cI cJ cZ) (σ := σ) (As := [.int 3, .int (σ.1 12 v1.toNatClampNeg), .int v1]) (rest := []) ⟨hx, hb, hml, hown, hts⟩ hK hP hD hS (c_X8_push l D ad cI cJ cZ σ 3 (σ.1 12 v1.toNatClampNeg) v1 hg_72) (cwV 3 hts gX8_runOp_X8_push rfl rfl rfl hd_X8_push ⟨Nat.le_trans (Nat.le_of_ble_eq_true rfl) hR.1, Nat.le_trans (Nat.le_of_ble_eq_true rfl) hR.2⟩) rfl (wM_0 _ _ _ _ _) rfl hl.1 rfl (Nat.le_of_ble_eq_true rfl) dX8_runOp_72 (fun H locs hP hS => ?_)
    refine lv_aload_n hx hb dX8_runOp_75 rfl (lv_at hl 3 rfl) ?_
    refine lv_iconst (v := 2) hx hb dX8_runOp_76 (by decide) ?_
    refine lv_iload_n hx hb dX8_runOp_77 rfl (lv_at hl 2 rfl) ?_
    refine lv_iload_n hx hb dX8_runOp_78 rfl (lv_at hl 4 rfl) ?_
    obtain ⟨r_79, hg_79, hf⟩ := oc_e hf
    refine mV_wv (wd := wM ad cI cJ cZ) (σ := r_72) (As := [.int 2, .int (σ.1 12 v1.toNatClampNeg), .int v1]) (rest := []) ⟨hx, hb, hml, hown, hts⟩ hK hP hD hS (c_X8_push l D ad cI cJ cZ r_72 2 (σ.1 12 v1.toNatClampNeg) v1 hg_79) (cwV 3 hts gX8_runOp_X8_push rfl rfl rfl hd_X8_push ⟨Nat.le_trans (Nat.le_of_ble_eq_true rfl) hR.1, Nat.le_trans (Nat.le_of_ble_eq_true rfl) hR.2⟩) rfl (wM_0 _ _ _ _ _) rfl hl.1 rfl (Nat.le_of_ble_eq_true rfl) dX8_runOp_79 (fun H locs hP hS => ?_)
    refine lv_goto (tgt := 296) hx hb dX8_runOp_82 (by decide) ?_
    exact w_X8_runOp_296 hm hR hK hD r_79 hf _ _ _ hP hS (lv_sub hl [] rfl)
  rw [if_neg c_23_0] at hf
  by_cases c_23_1 : (σ.1 11 v1.toNatClampNeg) = 1
  · rw [if_pos c_23_1] at hf
    refine lv_tableIn (off := 268) (tgt := 291) hx hb dX8_runOp_23 (by rw [c_23_1]; decide) (by rw [c_23_1]; decide) (by rw [c_23_1]; rfl) (by decide) ?_
    exact w_X8_runOp_291 hm hR hK hD v1 σ hf _ _ _ hP hS (lv_sub hl [3, 4] rfl)
  rw [if_neg c_23_1] at hf
  by_cases c_23_2 : (σ.1 11 v1.toNatClampNeg) = 2
  · rw [if_pos c_23_2] at hf
    refine lv_tableIn (off := 62) (tgt := 85) hx hb dX8_runOp_23 (by rw [c_23_2]; decide) (by rw [c_23_2]; decide) (by rw [c_23_2]; rfl) (by decide) ?_
    refine lv_aload_n hx hb dX8_runOp_85 rfl (lv_at hl 3 rfl) ?_
    refine lv_iload_n hx hb dX8_runOp_86 rfl (lv_at hl 2 rfl) ?_
    refine lv_iload_n hx hb dX8_runOp_87 rfl (lv_at hl 2 rfl) ?_
    refine lv_iload_n hx hb dX8_runOp_88 rfl (lv_at hl 1 rfl) ?_
    obtain ⟨r_89, hg_89, hf⟩ := oc_e hf
    refine mV_wi (wd := wM ad cI cJ cZ) (σ := σ) (As := [.int (σ.1 12 v1.toNatClampNeg), .int (σ.1 12 v1.toNatClampNeg), .int (σ.1 13 v1.toNatClampNeg)]) (rest := []) ⟨hx, hb, hml, hown, hts⟩ hK hP hD hS (c_X8_chosenOf l D ad cI cJ cZ σ (σ.1 12 v1.toNatClampNeg) (σ.1 12 v1.toNatClampNeg) (σ.1 13 v1.toNatClampNeg) hg_89) (cwV 3 hts gX8_runOp_X8_chosenOf rfl rfl rfl hd_X8_chosenOf ⟨Nat.le_trans (Nat.le_of_ble_eq_true rfl) hR.1, Nat.le_trans (Nat.le_of_ble_eq_true rfl) hR.2⟩) rfl (wM_0 _ _ _ _ _) rfl hl.1 rfl (Nat.le_of_ble_eq_true rfl) dX8_runOp_89 (fun H locs hP hS => ?_)
    refine lv_istore (lv' := [(4, .int r_89.1), (3, .int (σ.1 13 v1.toNatClampNeg)), (2, .int (σ.1 12 v1.toNatClampNeg)), (0, .ref (ad 0)), (1, .int v1)]) hx hb dX8_runOp_92 hl (by decide) rfl (fun ls hl => ?_)
    refine lv_iload hx hb dX8_runOp_94 (lv_at hl 0 rfl) ?_
    refine lv_if_lt (tgt := 296) hx hb dX8_runOp_96 (by decide) (fun c_96 => ?_) (fun c_96 => ?_)
    · rw [if_pos c_96] at hf
      exact w_X8_runOp_296 hm hR hK hD r_89.2 hf _ _ _ hP hS (lv_sub hl [] rfl)
    · rw [if_neg c_96] at hf
      refine lv_aload_n hx hb dX8_runOp_99 rfl (lv_at hl 3 rfl) ?_
      refine lv_iconst (v := 1) hx hb dX8_runOp_100 (by decide) ?_
      refine lv_iload hx hb dX8_runOp_101 (lv_at hl 0 rfl) ?_
      refine lv_iload_n hx hb dX8_runOp_103 rfl (lv_at hl 4 rfl) ?_
      obtain ⟨r_104, hg_104, hf⟩ := oc_e hf
      refine mV_wv (wd := wM ad cI cJ cZ) (σ := r_89.2) (As := [.int 1, .int r_89.1, .int v1]) (rest := []) ⟨hx, hb, hml, hown, hts⟩ hK hP hD hS (c_X8_push l D ad cI cJ cZ r_89.2 1 r_89.1 v1 hg_104) (cwV 3 hts gX8_runOp_X8_push rfl rfl rfl hd_X8_push ⟨Nat.le_trans (Nat.le_of_ble_eq_true rfl) hR.1, Nat.le_trans (Nat.le_of_ble_eq_true rfl) hR.2⟩) rfl (wM_0 _ _ _ _ _) rfl hl.1 rfl (Nat.le_of_ble_eq_true rfl) dX8_runOp_104 (fun H locs hP hS => ?_)
      refine lv_goto (tgt := 296) hx hb dX8_runOp_107 (by decide) ?_
      exact w_X8_runOp_296 hm hR hK hD r_104 hf _ _ _ hP hS (lv_sub hl [] rfl)
  rw [if_neg c_23_2] at hf
  by_cases c_23_3 : (σ.1 11 v1.toNatClampNeg) = 3
  · rw [if_pos c_23_3] at hf
    refine lv_tableIn (off := 87) (tgt := 110) hx hb dX8_runOp_23 (by rw [c_23_3]; decide) (by rw [c_23_3]; decide) (by rw [c_23_3]; rfl) (by decide) ?_
    refine lv_aload_n hx hb dX8_runOp_110 rfl (lv_at hl 3 rfl) ?_
    refine lv_iload_n hx hb dX8_runOp_111 rfl (lv_at hl 2 rfl) ?_
    refine lv_iload_n hx hb dX8_runOp_112 rfl (lv_at hl 1 rfl) ?_
    obtain ⟨r_113, hg_113, hf⟩ := oc_e hf
    refine mV_wi (wd := wM ad cI cJ cZ) (σ := σ) (As := [.int (σ.1 12 v1.toNatClampNeg), .int (σ.1 13 v1.toNatClampNeg)]) (rest := []) ⟨hx, hb, hml, hown, hts⟩ hK hP hD hS (c_X8_find l D ad cI cJ cZ σ (σ.1 12 v1.toNatClampNeg) (σ.1 13 v1.toNatClampNeg) hg_113) (cwV 2 hts gX8_runOp_X8_find rfl rfl rfl hd_X8_find ⟨Nat.le_trans (Nat.le_of_ble_eq_true rfl) hR.1, Nat.le_trans (Nat.le_of_ble_eq_true rfl) hR.2⟩) rfl (wM_0 _ _ _ _ _) rfl hl.1 rfl (Nat.le_of_ble_eq_true rfl) dX8_runOp_113 (fun H locs hP hS => ?_)
    refine lv_istore (lv' := [(4, .int r_113.1), (3, .int (σ.1 13 v1.toNatClampNeg)), (2, .int (σ.1 12 v1.toNatClampNeg)), (0, .ref (ad 0)), (1, .int v1)]) hx hb dX8_runOp_116 hl (by decide) rfl (fun ls hl => ?_)
    refine lv_iload hx hb dX8_runOp_118 (lv_at hl 0 rfl) ?_
    refine lv_iconst (v := (-1)) hx hb dX8_runOp_120 (by decide) ?_
    refine lv_icmp_eq (tgt := 296) hx hb dX8_runOp_121 (by decide) (fun c_121 => ?_) (fun c_121 => ?_)
    · rw [if_pos c_121] at hf
      exact w_X8_runOp_296 hm hR hK hD r_113.2 hf _ _ _ hP hS (lv_sub hl [] rfl)
    · rw [if_neg c_121] at hf
      refine lv_aload_n hx hb dX8_runOp_124 rfl (lv_at hl 3 rfl) ?_
      refine va_get (D := D) (ci := 7) (v := .ref (ad 7)) (C := RX8) (T := TX8) (N := 50) hx hb hts in_X8_runOp_X8 hown hK hP 0 (wM_0 _ _ _ _ _) rfl 8 (by decide) (hts (.fieldLink RX8 28 "CallGraphsModel" "sortOf" "[I") (List.mem_of_getElem? (i := 4) rfl)) (fun _ h9 => h9) (fM_0_8 _ _) dX8_runOp_125 ?_
      refine lv_iload hx hb dX8_runOp_128 (lv_at hl 0 rfl) ?_
      obtain ⟨h_130, hf⟩ := oi_e hf
      refine va_iald hx hb hK hP 7 0 (wM_7 _ _ _ _ _) rfl h_130 dX8_runOp_130 ?_
      refine lv_iconst (v := 2) hx hb dX8_runOp_131 (by decide) ?_
      refine lv_icmp_ne (tgt := 296) hx hb dX8_runOp_132 (by decide) (fun c_132 => ?_) (fun c_132 => ?_)
      · rw [if_neg c_132] at hf
        exact w_X8_runOp_296 hm hR hK hD r_113.2 hf _ _ _ hP hS (lv_sub hl [] rfl)
      · rw [if_pos c_132] at hf
        refine lv_aload_n hx hb dX8_runOp_135 rfl (lv_at hl 3 rfl) ?_
        refine lv_iconst (v := 1) hx hb dX8_runOp_136 (by decide) ?_
        refine lv_iload hx hb dX8_runOp_137 (lv_at hl 0 rfl) ?_
        refine lv_iload_n hx hb dX8_runOp_139 rfl (lv_at hl 4 rfl) ?_
        obtain ⟨r_140, hg_140, hf⟩ := oc_e hf
        refine mV_wv (wd := wM ad cI cJ cZ) (σ := r_113.2) (As := [.int 1, .int r_113.1, .int v1]) (rest := []) ⟨hx, hb, hml, hown, hts⟩ hK hP hD hS (c_X8_push l D ad cI cJ cZ r_113.2 1 r_113.1 v1 hg_140) (cwV 3 hts gX8_runOp_X8_push rfl rfl rfl hd_X8_push ⟨Nat.le_trans (Nat.le_of_ble_eq_true rfl) hR.1, Nat.le_trans (Nat.le_of_ble_eq_true rfl) hR.2⟩) rfl (wM_0 _ _ _ _ _) rfl hl.1 rfl (Nat.le_of_ble_eq_true rfl) dX8_runOp_140 (fun H locs hP hS => ?_)
        refine lv_aload_n hx hb dX8_runOp_143 rfl (lv_at hl 3 rfl) ?_
        refine lv_iconst (v := 2) hx hb dX8_runOp_144 (by decide) ?_
        refine lv_aload_n hx hb dX8_runOp_145 rfl (lv_at hl 3 rfl) ?_
        refine va_get (D := D) (ci := 7) (v := .ref (ad 5)) (C := RX8) (T := TX8) (N := 50) hx hb hts in_X8_runOp_X8 hown hK hP 0 (wM_0 _ _ _ _ _) rfl 6 (by decide) (hts (.fieldLink RX8 22 "CallGraphsModel" "typeOf" "[I") (List.mem_of_getElem? (i := 5) rfl)) (fun _ h9 => h9) (fM_0_6 _ _) dX8_runOp_146 ?_
        refine lv_iload hx hb dX8_runOp_149 (lv_at hl 0 rfl) ?_
        obtain ⟨h_151, hf⟩ := oi_e hf
        refine va_iald hx hb hK hP 5 0 (wM_5 _ _ _ _ _) rfl h_151 dX8_runOp_151 ?_
        refine lv_iload_n hx hb dX8_runOp_152 rfl (lv_at hl 4 rfl) ?_
        obtain ⟨r_153, hg_153, hf⟩ := oc_e hf
        refine mV_wv (wd := wM ad cI cJ cZ) (σ := r_140) (As := [.int 2, .int (r_140.1 5 r_113.1.toNatClampNeg), .int v1]) (rest := []) ⟨hx, hb, hml, hown, hts⟩ hK hP hD hS (c_X8_push l D ad cI cJ cZ r_140 2 (r_140.1 5 r_113.1.toNatClampNeg) v1 hg_153) (cwV 3 hts gX8_runOp_X8_push rfl rfl rfl hd_X8_push ⟨Nat.le_trans (Nat.le_of_ble_eq_true rfl) hR.1, Nat.le_trans (Nat.le_of_ble_eq_true rfl) hR.2⟩) rfl (wM_0 _ _ _ _ _) rfl hl.1 rfl (Nat.le_of_ble_eq_true rfl) dX8_runOp_153 (fun H locs hP hS => ?_)
        refine lv_goto (tgt := 296) hx hb dX8_runOp_156 (by decide) ?_
        exact w_X8_runOp_296 hm hR hK hD r_153 hf _ _ _ hP hS (lv_sub hl [] rfl)
  rw [if_neg c_23_3] at hf
  by_cases c_23_4 : (σ.1 11 v1.toNatClampNeg) = 4
  · rw [if_pos c_23_4] at hf
    refine lv_tableIn (off := 268) (tgt := 291) hx hb dX8_runOp_23 (by rw [c_23_4]; decide) (by rw [c_23_4]; decide) (by rw [c_23_4]; rfl) (by decide) ?_
    exact w_X8_runOp_291 hm hR hK hD v1 σ hf _ _ _ hP hS (lv_sub hl [3, 4] rfl)
  rw [if_neg c_23_4] at hf
  by_cases c_23_5 : (σ.1 11 v1.toNatClampNeg) = 5
  · rw [if_pos c_23_5] at hf
    refine lv_tableIn (off := 136) (tgt := 159) hx hb dX8_runOp_23 (by rw [c_23_5]; decide) (by rw [c_23_5]; decide) (by rw [c_23_5]; rfl) (by decide) ?_
    refine lv_iconst (v := 0) hx hb dX8_runOp_159 (by decide) ?_
    refine lv_istore (lv' := [(5, .int 0), (4, .int (-1)), (3, .int (σ.1 13 v1.toNatClampNeg)), (2, .int (σ.1 12 v1.toNatClampNeg)), (0, .ref (ad 0)), (1, .int v1)]) hx hb dX8_runOp_160 hl (by decide) rfl (fun ls hl => ?_)
    refine lv_iconst (v := 0) hx hb dX8_runOp_162 (by decide) ?_
    refine lv_istore (lv' := [(6, .int 0), (5, .int 0), (4, .int (-1)), (3, .int (σ.1 13 v1.toNatClampNeg)), (2, .int (σ.1 12 v1.toNatClampNeg)), (0, .ref (ad 0)), (1, .int v1)]) hx hb dX8_runOp_163 hl (by decide) rfl (fun ls hl => ?_)
    exact w_X8_runOp_165 hm hR hK hD 100000 (σ.1 12 v1.toNatClampNeg) (σ.1 13 v1.toNatClampNeg) 0 0 σ hf _ _ _ hP hS (lv_sub hl [5, 4, 3, 1, 0] rfl)
  rw [if_neg c_23_5] at hf
  by_cases c_23_6 : (σ.1 11 v1.toNatClampNeg) = 6
  · rw [if_pos c_23_6] at hf
    refine lv_tableIn (off := 222) (tgt := 245) hx hb dX8_runOp_23 (by rw [c_23_6]; decide) (by rw [c_23_6]; decide) (by rw [c_23_6]; rfl) (by decide) ?_
    refine lv_aload_n hx hb dX8_runOp_245 rfl (lv_at hl 3 rfl) ?_
    refine va_get (D := D) (ci := 7) (v := .ref (ad 36)) (C := RX8) (T := TX8) (N := 50) hx hb hts in_X8_runOp_X8 hown hK hP 0 (wM_0 _ _ _ _ _) rfl 49 (by decide) (hts (.fieldLink RX8 116 "CallGraphsModel" "bagMany" "[I") (List.mem_of_getElem? (i := 6) rfl)) (fun _ h9 => h9) (fM_0_49 _ _) dX8_runOp_246 ?_
    refine lv_iload_n hx hb dX8_runOp_249 rfl (lv_at hl 2 rfl) ?_
    obtain ⟨h_250, hf⟩ := oi_e hf
    refine va_iald hx hb hK hP 36 0 (wM_36 _ _ _ _ _) rfl h_250 dX8_runOp_250 ?_
    refine lv_if_le (tgt := 296) hx hb dX8_runOp_251 (by decide) (fun c_251 => ?_) (fun c_251 => ?_)
    · rw [if_pos c_251] at hf
      exact w_X8_runOp_296 hm hR hK hD σ hf _ _ _ hP hS (lv_sub hl [] rfl)
    · rw [if_neg c_251] at hf
      refine lv_aload_n hx hb dX8_runOp_254 rfl (lv_at hl 3 rfl) ?_
      refine lv_iconst (v := 1) hx hb dX8_runOp_255 (by decide) ?_
      refine lv_aload_n hx hb dX8_runOp_256 rfl (lv_at hl 3 rfl) ?_
      refine va_get (D := D) (ci := 7) (v := .ref (ad 35)) (C := RX8) (T := TX8) (N := 50) hx hb hts in_X8_runOp_X8 hown hK hP 0 (wM_0 _ _ _ _ _) rfl 48 (by decide) (hts (.fieldLink RX8 113 "CallGraphsModel" "bag" "[I") (List.mem_of_getElem? (i := 7) rfl)) (fun _ h9 => h9) (fM_0_48 _ _) dX8_runOp_257 ?_
      refine lv_bipush (v := 48) hx hb dX8_runOp_260 (by decide) ?_
      refine lv_iload_n hx hb dX8_runOp_262 rfl (lv_at hl 2 rfl) ?_
      refine lv_imul hx hb dX8_runOp_263 ?_
      refine lv_aload_n hx hb dX8_runOp_264 rfl (lv_at hl 3 rfl) ?_
      refine lv_aload_n hx hb dX8_runOp_265 rfl (lv_at hl 3 rfl) ?_
      refine va_get (D := D) (ci := 7) (v := .ref (ad 36)) (C := RX8) (T := TX8) (N := 50) hx hb hts in_X8_runOp_X8 hown hK hP 0 (wM_0 _ _ _ _ _) rfl 49 (by decide) (hts (.fieldLink RX8 116 "CallGraphsModel" "bagMany" "[I") (List.mem_of_getElem? (i := 6) rfl)) (fun _ h9 => h9) (fM_0_49 _ _) dX8_runOp_266 ?_
      refine lv_iload_n hx hb dX8_runOp_269 rfl (lv_at hl 2 rfl) ?_
      obtain ⟨h_270, hf⟩ := oi_e hf
      refine va_iald hx hb hK hP 36 0 (wM_36 _ _ _ _ _) rfl h_270 dX8_runOp_270 ?_
      obtain ⟨r_271, hg_271, hf⟩ := oc_e hf
      refine mV_wi (wd := wM ad cI cJ cZ) (σ := σ) (As := [.int (σ.1 36 (σ.1 12 v1.toNatClampNeg).toNatClampNeg)]) (rest := [.int (48 * (σ.1 12 v1.toNatClampNeg)), .ref (ad 35), .int 1, .ref (ad 0)]) ⟨hx, hb, hml, hown, hts⟩ hK hP hD hS (c_X8_draw l D ad cI cJ cZ σ (σ.1 36 (σ.1 12 v1.toNatClampNeg).toNatClampNeg) hg_271) (cwV 1 hts gX8_runOp_X8_draw rfl rfl rfl hd_X8_draw ⟨Nat.le_trans (Nat.le_of_ble_eq_true rfl) hR.1, Nat.le_trans (Nat.le_of_ble_eq_true rfl) hR.2⟩) rfl (wM_0 _ _ _ _ _) rfl hl.1 rfl (Nat.le_of_ble_eq_true rfl) dX8_runOp_271 (fun H locs hP hS => ?_)
      refine lv_iadd hx hb dX8_runOp_274 ?_
      obtain ⟨h_275, hf⟩ := oi_e hf
      refine va_iald hx hb hK hP 35 0 (wM_35 _ _ _ _ _) rfl h_275 dX8_runOp_275 ?_
      refine lv_iload_n hx hb dX8_runOp_276 rfl (lv_at hl 4 rfl) ?_
      obtain ⟨r_277, hg_277, hf⟩ := oc_e hf
      refine mV_wv (wd := wM ad cI cJ cZ) (σ := r_271.2) (As := [.int 1, .int (r_271.2.1 35 ((48 * (σ.1 12 v1.toNatClampNeg)) + r_271.1).toNatClampNeg), .int v1]) (rest := []) ⟨hx, hb, hml, hown, hts⟩ hK hP hD hS (c_X8_push l D ad cI cJ cZ r_271.2 1 (r_271.2.1 35 ((48 * (σ.1 12 v1.toNatClampNeg)) + r_271.1).toNatClampNeg) v1 hg_277) (cwV 3 hts gX8_runOp_X8_push rfl rfl rfl hd_X8_push ⟨Nat.le_trans (Nat.le_of_ble_eq_true rfl) hR.1, Nat.le_trans (Nat.le_of_ble_eq_true rfl) hR.2⟩) rfl (wM_0 _ _ _ _ _) rfl hl.1 rfl (Nat.le_of_ble_eq_true rfl) dX8_runOp_277 (fun H locs hP hS => ?_)
      refine lv_goto (tgt := 296) hx hb dX8_runOp_280 (by decide) ?_
      exact w_X8_runOp_296 hm hR hK hD r_277 hf _ _ _ hP hS (lv_sub hl [] rfl)
  rw [if_neg c_23_6] at hf
  by_cases c_23_7 : (σ.1 11 v1.toNatClampNeg) = 7
  · rw [if_pos c_23_7] at hf
    refine lv_tableIn (off := 260) (tgt := 283) hx hb dX8_runOp_23 (by rw [c_23_7]; decide) (by rw [c_23_7]; decide) (by rw [c_23_7]; rfl) (by decide) ?_
    refine lv_aload_n hx hb dX8_runOp_283 rfl (lv_at hl 3 rfl) ?_
    refine lv_iload_n hx hb dX8_runOp_284 rfl (lv_at hl 4 rfl) ?_
    obtain ⟨r_285, hg_285, hf⟩ := oc_e hf
    refine mV_wv (wd := wM ad cI cJ cZ) (σ := σ) (As := [.int v1]) (rest := []) ⟨hx, hb, hml, hown, hts⟩ hK hP hD hS (c_X8_runAny l D ad cI cJ cZ σ v1 hg_285) (cwV 1 hts gX8_runOp_X8_runAny rfl rfl rfl hd_X8_runAny ⟨Nat.le_trans (Nat.le_of_ble_eq_true rfl) hR.1, Nat.le_trans (Nat.le_of_ble_eq_true rfl) hR.2⟩) rfl (wM_0 _ _ _ _ _) rfl hl.1 rfl (Nat.le_of_ble_eq_true rfl) dX8_runOp_285 (fun H locs hP hS => ?_)
    refine lv_goto (tgt := 296) hx hb dX8_runOp_288 (by decide) ?_
    exact w_X8_runOp_296 hm hR hK hD r_285 hf _ _ _ hP hS (lv_sub hl [] rfl)
  rw [if_neg c_23_7] at hf
  refine lv_tableOut (tgt := 291) hx hb dX8_runOp_23 (by have g0 := lv_neT c_23_0 (a := 0) (by decide); have g1 := lv_neT c_23_1 (a := 1) (by decide); have g2 := lv_neT c_23_2 (a := 2) (by decide); have g3 := lv_neT c_23_3 (a := 3) (by decide); have g4 := lv_neT c_23_4 (a := 4) (by decide); have g5 := lv_neT c_23_5 (a := 5) (by decide); have g6 := lv_neT c_23_6 (a := 6) (by decide); have g7 := lv_neT c_23_7 (a := 7) (by decide); omega) (by decide) ?_
  exact w_X8_runOp_291 hm hR hK hD v1 σ hf _ _ _ hP hS (lv_sub hl [3, 4] rfl)
theorem hd_X8_runOp : yX8_runOp.cls = RX8 ∧ yX8_runOp.cls ≠ "java/lang/invoke/MethodHandle" ∧ yX8_runOp.cls ≠ "java/lang/invoke/VarHandle" ∧ (parseMethodDescriptor yX8_runOp.desc).map (fun d => d.parameters.length) = some 1 := by decide +kernel
set_option maxHeartbeats 4000000 in
set_option maxRecDepth 100000 in
theorem c_X8_runOp (l : Launch) (D : va_G) (ad : Nat → Nat) (cI cJ cZ : ClassId) (σ : SS) (v1 : Int32) {res : SS} (hf : p_X8_runOp_0 v1 σ = some res) : Met l yX8_runOp wsX8_runOp ({ frames := 6, cells := 0, slots := 0, locals := 150 } : Room) (PW D (tyw cI cJ cZ) (wM ad cI cJ cZ σ) [.ref (ad 0), .int v1]) (va_Qv (fun (u : SS) => u = res) (fun u t => va_P D vwCl (wM ad cI cJ cZ u) t.heap) (aM ad)) 0 0 (aM ad) := by
  refine Met.ofW (cc := cX8_runOp) (maxL := 7) (ret := none) (by decide) rfl ?_
  intro p e s m args below meth c s₁ B hml hv
  obtain ⟨rfl, hP, hK, hD0⟩ := hv
  have hD : ∀ σ, va_D (aM ad) (wM ad cI cJ cZ σ) := fun σ => wd_D hD0 (wM_map _ _ _ _ _) (wM_map _ _ _ _ _)
  have hm : mx p s m _ meth c cX8_runOp 7 none wsX8_runOp RX8 := ⟨B.exec, B.bytes, B.returns, hml, findClass_of_methodNamed B.named, atoms_spec (ws := wsX8_runOp) B.pre, B.notSynchronized⟩
  have hl := lv_entry ([.ref (ad 0), .int v1]) (n := 7) (Nat.le_of_ble_eq_true rfl)
  rw [lg_entry_eq]
  generalize (lg_sl ([.ref (ad 0), .int v1]) ++ List.replicate (7 - (lg_sl ([.ref (ad 0), .int v1])).length) Slot.unset).toArray = ls at hl ⊢
  exact w_X8_runOp_0 hm ⟨Nat.le_refl _, Nat.le_refl _⟩ hK hD v1 σ hf _ _ _ hP va_S.rf hl
/-! CallGraphsModel.doNext()V -/
theorem in_X8_doNext_X8 : ∀ w ∈ u_ws RX8 TX8 50, w ∈ wsX8_doNext := fun w h => List.mem_cons_of_mem _ (List.mem_append_right _ h)
def p_X8_doNext_101 (σ : SS) : Option (SS) := some σ
set_option maxHeartbeats 4000000 in
set_option maxRecDepth 100000 in
theorem w_X8_doNext_101 {p : Program} {l : Launch} {e : Env} {R : Room} {s : State} {m : MethodId} {args : Array Value} {below : List Frame} {meth : Method} {c : Code} {D : va_G} {ad : Nat → Nat} {cI cJ cZ : ClassId} {res : SS} (hm : mx p s m args meth c cX8_doNext 4 none wsX8_doNext RX8) (hR : 7 ≤ R.frames ∧ 176 ≤ R.locals) (hK : va_K D vwCl (tyw cI cJ cZ) s) (hD : ∀ σ, va_D (aM ad) (wM ad cI cJ cZ σ)) (σ : SS) (hf : p_X8_doNext_101 σ = some res) (H : Heap) (locs : List Loc) (ls : Array Slot) (hP : va_P D vwCl (wM ad cI cJ cZ σ) H) (hS : va_S (aM ad) s.heap H locs) (hl : lv_has ls 4 []) : W p l e R s m args below meth c H locs 0 0 (MQ below (va_Qv (fun (u : SS) => u = res) (fun u t => va_P D vwCl (wM ad cI cJ cZ u) t.heap) (aM ad)) args s 0 0 (aM ad)) (F0 m 101 ls []) := by
  obtain ⟨hx, hb, hr, hml, hown, hts, hlk⟩ := id hm
  unfold p_X8_doNext_101 at hf
  exact rt_v (wd := wM ad cI cJ cZ) hx hb hr hlk (Option.some.inj hf) hP hS dX8_doNext_101
def p_X8_doNext_211 (σ : SS) : Option (SS) := some σ
set_option maxHeartbeats 4000000 in
set_option maxRecDepth 100000 in
theorem w_X8_doNext_211 {p : Program} {l : Launch} {e : Env} {R : Room} {s : State} {m : MethodId} {args : Array Value} {below : List Frame} {meth : Method} {c : Code} {D : va_G} {ad : Nat → Nat} {cI cJ cZ : ClassId} {res : SS} (hm : mx p s m args meth c cX8_doNext 4 none wsX8_doNext RX8) (hR : 7 ≤ R.frames ∧ 176 ≤ R.locals) (hK : va_K D vwCl (tyw cI cJ cZ) s) (hD : ∀ σ, va_D (aM ad) (wM ad cI cJ cZ σ)) (σ : SS) (hf : p_X8_doNext_211 σ = some res) (H : Heap) (locs : List Loc) (ls : Array Slot) (hP : va_P D vwCl (wM ad cI cJ cZ σ) H) (hS : va_S (aM ad) s.heap H locs) (hl : lv_has ls 4 []) : W p l e R s m args below meth c H locs 0 0 (MQ below (va_Qv (fun (u : SS) => u = res) (fun u t => va_P D vwCl (wM ad cI cJ cZ u) t.heap) (aM ad)) args s 0 0 (aM ad)) (F0 m 211 ls []) := by
  obtain ⟨hx, hb, hr, hml, hown, hts, hlk⟩ := id hm
  unfold p_X8_doNext_211 at hf
  exact rt_v (wd := wM ad cI cJ cZ) hx hb hr hlk (Option.some.inj hf) hP hS dX8_doNext_211
def p_X8_doNext_179 (v2 : Int32) (t0 : Int32) (σ : SS) : Option (SS) := ob t0 (os (sI σ 0 43 t0) (fun s_179 => if 20 ≤ (s_179.1 0 47) then p_X8_doNext_211 s_179 else oi (s_179.1 0 47) 20 (os (sI s_179 34 ((s_179.1 0 47).toNatClampNeg) v2) (fun s_200 => os (sI s_200 0 47 ((s_200.1 0 47) + 1)) (fun s_208 => p_X8_doNext_211 s_208)))))
set_option maxHeartbeats 4000000 in
set_option maxRecDepth 100000 in
theorem w_X8_doNext_179 {p : Program} {l : Launch} {e : Env} {R : Room} {s : State} {m : MethodId} {args : Array Value} {below : List Frame} {meth : Method} {c : Code} {D : va_G} {ad : Nat → Nat} {cI cJ cZ : ClassId} {res : SS} (hm : mx p s m args meth c cX8_doNext 4 none wsX8_doNext RX8) (hR : 7 ≤ R.frames ∧ 176 ≤ R.locals) (hK : va_K D vwCl (tyw cI cJ cZ) s) (hD : ∀ σ, va_D (aM ad) (wM ad cI cJ cZ σ)) (v2 : Int32) (t0 : Int32) (σ : SS) (hf : p_X8_doNext_179 v2 t0 σ = some res) (H : Heap) (locs : List Loc) (ls : Array Slot) (hP : va_P D vwCl (wM ad cI cJ cZ σ) H) (hS : va_S (aM ad) s.heap H locs) (hl : lv_has ls 4 [(0, .ref (ad 0)), (2, .int v2)]) : W p l e R s m args below meth c H locs 0 0 (MQ below (va_Qv (fun (u : SS) => u = res) (fun u t => va_P D vwCl (wM ad cI cJ cZ u) t.heap) (aM ad)) args s 0 0 (aM ad)) (F0 m 179 ls [.int t0, .ref (ad 0)]) := by
  obtain ⟨hx, hb, hr, hml, hown, hts, hlk⟩ := id hm
  unfold p_X8_doNext_179 at hf
  obtain ⟨h_179, hf⟩ := ob_e hf
  refine va_put (D := D) (ci := 7) (v := .int t0) (ty := .boolean) (C := RX8) (T := TX8) (N := 50) hx hb hts in_X8_doNext_X8 tyX8 tyX8_ok nmX8 hown hK hP (hD _) hS 0 (wM_0 _ _ _ _ _) rfl 43 (by decide) (hts (.fieldLink RX8 250 "CallGraphsModel" "isRight" "Z") (List.mem_of_getElem? (i := 9) rfl)) (fun _ h9 => h9) rfl (tyX8_ok 43 (by decide)) (nb_n h_179) (nb_f h_179) (Nat.le_of_ble_eq_true rfl) dX8_doNext_179 (fun H locs hP _ hS => ?_)
  have hP := wM_p0_43 hP
  obtain ⟨s_179, es_179, hf⟩ := os_e hf
  rw [← es_179] at hP
  refine lv_aload_n hx hb dX8_doNext_182 rfl (lv_at hl 0 rfl) ?_
  refine va_get (D := D) (ci := 7) (v := .int (s_179.1 0 47)) (C := RX8) (T := TX8) (N := 50) hx hb hts in_X8_doNext_X8 hown hK hP 0 (wM_0 _ _ _ _ _) rfl 47 (by decide) (hts (.fieldLink RX8 268 "CallGraphsModel" "pools" "I") (List.mem_of_getElem? (i := 11) rfl)) (fun _ h9 => h9) (fM_0_47 _ _) dX8_doNext_183 ?_
  refine lv_bipush (v := 20) hx hb dX8_doNext_186 (by decide) ?_
  refine lv_icmp_ge (tgt := 211) hx hb dX8_doNext_188 (by decide) (fun c_188 => ?_) (fun c_188 => ?_)
  · rw [if_pos c_188] at hf
    exact w_X8_doNext_211 hm hR hK hD s_179 hf _ _ _ hP hS (lv_sub hl [] rfl)
  · rw [if_neg c_188] at hf
    refine lv_aload_n hx hb dX8_doNext_191 rfl (lv_at hl 0 rfl) ?_
    refine va_get (D := D) (ci := 7) (v := .ref (ad 34)) (C := RX8) (T := TX8) (N := 50) hx hb hts in_X8_doNext_X8 hown hK hP 0 (wM_0 _ _ _ _ _) rfl 46 (by decide) (hts (.fieldLink RX8 110 "CallGraphsModel" "pool" "[I") (List.mem_of_getElem? (i := 12) rfl)) (fun _ h9 => h9) (fM_0_46 _ _) dX8_doNext_192 ?_
    refine lv_aload_n hx hb dX8_doNext_195 rfl (lv_at hl 0 rfl) ?_
    refine va_get (D := D) (ci := 7) (v := .int (s_179.1 0 47)) (C := RX8) (T := TX8) (N := 50) hx hb hts in_X8_doNext_X8 hown hK hP 0 (wM_0 _ _ _ _ _) rfl 47 (by decide) (hts (.fieldLink RX8 268 "CallGraphsModel" "pools" "I") (List.mem_of_getElem? (i := 11) rfl)) (fun _ h9 => h9) (fM_0_47 _ _) dX8_doNext_196 ?_
    refine lv_iload_n hx hb dX8_doNext_199 rfl (lv_at hl 1 rfl) ?_
    obtain ⟨h_200, hf⟩ := oi_e hf
    refine va_iast hx hb hK hP (hD _) hS 34 0 (wM_34 _ _ _ _ _) rfl h_200 dX8_doNext_200 (fun H locs hP _ hS => ?_)
    have hP := wM_s34 hP
    obtain ⟨s_200, es_200, hf⟩ := os_e hf
    rw [← es_200] at hP
    refine lv_aload_n hx hb dX8_doNext_201 rfl (lv_at hl 0 rfl) ?_
    refine lv_dup hx hb dX8_doNext_202 rfl ?_
    refine va_get (D := D) (ci := 7) (v := .int (s_200.1 0 47)) (C := RX8) (T := TX8) (N := 50) hx hb hts in_X8_doNext_X8 hown hK hP 0 (wM_0 _ _ _ _ _) rfl 47 (by decide) (hts (.fieldLink RX8 268 "CallGraphsModel" "pools" "I") (List.mem_of_getElem? (i := 11) rfl)) (fun _ h9 => h9) (fM_0_47 _ _) dX8_doNext_203 ?_
    refine lv_iconst (v := 1) hx hb dX8_doNext_206 (by decide) ?_
    refine lv_iadd hx hb dX8_doNext_207 ?_
    refine va_put (D := D) (ci := 7) (v := .int ((s_200.1 0 47) + 1)) (ty := .int) (C := RX8) (T := TX8) (N := 50) hx hb hts in_X8_doNext_X8 tyX8 tyX8_ok nmX8 hown hK hP (hD _) hS 0 (wM_0 _ _ _ _ _) rfl 47 (by decide) (hts (.fieldLink RX8 268 "CallGraphsModel" "pools" "I") (List.mem_of_getElem? (i := 11) rfl)) (fun _ h9 => h9) rfl (tyX8_ok 47 (by decide)) rfl rfl (Nat.le_of_ble_eq_true rfl) dX8_doNext_208 (fun H locs hP _ hS => ?_)
    have hP := wM_p0_47 hP
    obtain ⟨s_208, es_208, hf⟩ := os_e hf
    rw [← es_208] at hP
    exact w_X8_doNext_211 hm hR hK hD s_208 hf _ _ _ hP hS (lv_sub hl [] rfl)
def p_X8_doNext_178 (v2 : Int32) (σ : SS) : Option (SS) := p_X8_doNext_179 v2 0 σ
set_option maxHeartbeats 4000000 in
set_option maxRecDepth 100000 in
theorem w_X8_doNext_178 {p : Program} {l : Launch} {e : Env} {R : Room} {s : State} {m : MethodId} {args : Array Value} {below : List Frame} {meth : Method} {c : Code} {D : va_G} {ad : Nat → Nat} {cI cJ cZ : ClassId} {res : SS} (hm : mx p s m args meth c cX8_doNext 4 none wsX8_doNext RX8) (hR : 7 ≤ R.frames ∧ 176 ≤ R.locals) (hK : va_K D vwCl (tyw cI cJ cZ) s) (hD : ∀ σ, va_D (aM ad) (wM ad cI cJ cZ σ)) (v2 : Int32) (σ : SS) (hf : p_X8_doNext_178 v2 σ = some res) (H : Heap) (locs : List Loc) (ls : Array Slot) (hP : va_P D vwCl (wM ad cI cJ cZ σ) H) (hS : va_S (aM ad) s.heap H locs) (hl : lv_has ls 4 [(0, .ref (ad 0)), (2, .int v2)]) : W p l e R s m args below meth c H locs 0 0 (MQ below (va_Qv (fun (u : SS) => u = res) (fun u t => va_P D vwCl (wM ad cI cJ cZ u) t.heap) (aM ad)) args s 0 0 (aM ad)) (F0 m 178 ls [.ref (ad 0)]) := by
  obtain ⟨hx, hb, hr, hml, hown, hts, hlk⟩ := id hm
  unfold p_X8_doNext_178 at hf
  refine lv_iconst (v := 0) hx hb dX8_doNext_178 (by decide) ?_
  exact w_X8_doNext_179 hm hR hK hD v2 0 σ hf _ _ _ hP hS (lv_sub hl [0, 1] rfl)
def p_X8_doNext_0 (σ : SS) : Option (SS) := oi ((σ.1 0 37) - 1) 1000 (oi ((σ.1 0 37) - 1) 1000 (if (σ.1 28 ((σ.1 0 37) - 1).toNatClampNeg) = 0 then oi ((σ.1 0 37) - 1) 1000 (oi (σ.1 29 ((σ.1 0 37) - 1).toNatClampNeg) 48 (if (σ.1 30 ((σ.1 0 37) - 1).toNatClampNeg) = (σ.1 9 (σ.1 29 ((σ.1 0 37) - 1).toNatClampNeg).toNatClampNeg) then os (sI σ 0 37 ((σ.1 0 37) - 1)) (fun s_45 => os (sI s_45 0 40 ((s_45.1 0 40) - 1)) (fun s_55 => p_X8_doNext_101 s_55)) else oi ((σ.1 0 37) - 1) 1000 (oi ((24 * (σ.1 29 ((σ.1 0 37) - 1).toNatClampNeg)) + (σ.1 30 ((σ.1 0 37) - 1).toNatClampNeg)) 1152 (oi ((σ.1 0 37) - 1) 1000 (oi ((σ.1 0 37) - 1) 1000 (os (sI σ 30 (((σ.1 0 37) - 1).toNatClampNeg) ((σ.1 30 ((σ.1 0 37) - 1).toNatClampNeg) + 1)) (fun s_87 => oc (p_X8_draw_0 4 s_87) (fun r_90 => if r_90.1 = 0 then p_X8_doNext_101 r_90.2 else oc (p_X8_runOp_0 (σ.1 10 ((24 * (σ.1 29 ((σ.1 0 37) - 1).toNatClampNeg)) + (σ.1 30 ((σ.1 0 37) - 1).toNatClampNeg)).toNatClampNeg) r_90.2) (fun r_98 => p_X8_doNext_101 r_98))))))))) else os (sI σ 0 37 ((σ.1 0 37) - 1)) (fun s_109 => oi ((σ.1 0 37) - 1) 1000 (oi ((σ.1 0 37) - 1) 1000 (if (s_109.1 28 ((σ.1 0 37) - 1).toNatClampNeg) = 1 then oc (p_X8_runNow_0 (σ.1 29 ((σ.1 0 37) - 1).toNatClampNeg) (s_109.1 31 ((σ.1 0 37) - 1).toNatClampNeg) s_109) (fun r_132 => p_X8_doNext_211 r_132) else oi ((σ.1 0 37) - 1) 1000 (if (s_109.1 28 ((σ.1 0 37) - 1).toNatClampNeg) = 2 then oc (p_X8_beginNow_0 (σ.1 29 ((σ.1 0 37) - 1).toNatClampNeg) (s_109.1 31 ((σ.1 0 37) - 1).toNatClampNeg) s_109) (fun r_151 => p_X8_doNext_211 r_151) else if (s_109.1 0 43) = 0 then p_X8_doNext_178 (σ.1 29 ((σ.1 0 37) - 1).toNatClampNeg) s_109 else oi (σ.1 29 ((σ.1 0 37) - 1).toNatClampNeg) 16 (if (s_109.1 15 (σ.1 29 ((σ.1 0 37) - 1).toNatClampNeg).toNatClampNeg) = 0 then p_X8_doNext_178 (σ.1 29 ((σ.1 0 37) - 1).toNatClampNeg) s_109 else p_X8_doNext_179 (σ.1 29 ((σ.1 0 37) - 1).toNatClampNeg) 1 s_109)))))))
set_option maxHeartbeats 4000000 in
set_option maxRecDepth 100000 in
theorem w_X8_doNext_0 {p : Program} {l : Launch} {e : Env} {R : Room} {s : State} {m : MethodId} {args : Array Value} {below : List Frame} {meth : Method} {c : Code} {D : va_G} {ad : Nat → Nat} {cI cJ cZ : ClassId} {res : SS} (hm : mx p s m args meth c cX8_doNext 4 none wsX8_doNext RX8) (hR : 7 ≤ R.frames ∧ 176 ≤ R.locals) (hK : va_K D vwCl (tyw cI cJ cZ) s) (hD : ∀ σ, va_D (aM ad) (wM ad cI cJ cZ σ)) (σ : SS) (hf : p_X8_doNext_0 σ = some res) (H : Heap) (locs : List Loc) (ls : Array Slot) (hP : va_P D vwCl (wM ad cI cJ cZ σ) H) (hS : va_S (aM ad) s.heap H locs) (hl : lv_has ls 4 [(0, .ref (ad 0))]) : W p l e R s m args below meth c H locs 0 0 (MQ below (va_Qv (fun (u : SS) => u = res) (fun u t => va_P D vwCl (wM ad cI cJ cZ u) t.heap) (aM ad)) args s 0 0 (aM ad)) (F0 m 0 ls []) := by
  obtain ⟨hx, hb, hr, hml, hown, hts, hlk⟩ := id hm
  unfold p_X8_doNext_0 at hf
  refine lv_aload_n hx hb dX8_doNext_0 rfl (lv_at hl 0 rfl) ?_
  refine va_get (D := D) (ci := 7) (v := .int (σ.1 0 37)) (C := RX8) (T := TX8) (N := 50) hx hb hts in_X8_doNext_X8 hown hK hP 0 (wM_0 _ _ _ _ _) rfl 37 (by decide) (hts (.fieldLink RX8 247 "CallGraphsModel" "deep" "I") (List.mem_of_getElem? (i := 1) rfl)) (fun _ h9 => h9) (fM_0_37 _ _) dX8_doNext_1 ?_
  refine lv_iconst (v := 1) hx hb dX8_doNext_4 (by decide) ?_
  refine lv_isub hx hb dX8_doNext_5 ?_
  refine lv_istore_n (lv' := [(1, .int ((σ.1 0 37) - 1)), (0, .ref (ad 0))]) hx hb dX8_doNext_6 rfl hl (by decide) rfl (fun ls hl => ?_)
  refine lv_aload_n hx hb dX8_doNext_7 rfl (lv_at hl 1 rfl) ?_
  refine va_get (D := D) (ci := 7) (v := .ref (ad 29)) (C := RX8) (T := TX8) (N := 50) hx hb hts in_X8_doNext_X8 hown hK hP 0 (wM_0 _ _ _ _ _) rfl 34 (by decide) (hts (.fieldLink RX8 95 "CallGraphsModel" "what1" "[I") (List.mem_of_getElem? (i := 2) rfl)) (fun _ h9 => h9) (fM_0_34 _ _) dX8_doNext_8 ?_
  refine lv_iload_n hx hb dX8_doNext_11 rfl (lv_at hl 0 rfl) ?_
  obtain ⟨h_12, hf⟩ := oi_e hf
  refine va_iald hx hb hK hP 29 0 (wM_29 _ _ _ _ _) rfl h_12 dX8_doNext_12 ?_
  refine lv_istore_n (lv' := [(2, .int (σ.1 29 ((σ.1 0 37) - 1).toNatClampNeg)), (1, .int ((σ.1 0 37) - 1)), (0, .ref (ad 0))]) hx hb dX8_doNext_13 rfl hl (by decide) rfl (fun ls hl => ?_)
  refine lv_aload_n hx hb dX8_doNext_14 rfl (lv_at hl 2 rfl) ?_
  refine va_get (D := D) (ci := 7) (v := .ref (ad 28)) (C := RX8) (T := TX8) (N := 50) hx hb hts in_X8_doNext_X8 hown hK hP 0 (wM_0 _ _ _ _ _) rfl 33 (by decide) (hts (.fieldLink RX8 92 "CallGraphsModel" "todo" "[I") (List.mem_of_getElem? (i := 3) rfl)) (fun _ h9 => h9) (fM_0_33 _ _) dX8_doNext_15 ?_
  refine lv_iload_n hx hb dX8_doNext_18 rfl (lv_at hl 1 rfl) ?_
  obtain ⟨h_19, hf⟩ := oi_e hf
  refine va_iald hx hb hK hP 28 0 (wM_28 _ _ _ _ _) rfl h_19 dX8_doNext_19 ?_
  refine lv_if_ne (tgt := 102) hx hb dX8_doNext_20 (by decide) (fun c_20 => ?_) (fun c_20 => ?_)
  · rw [if_neg c_20] at hf
    refine lv_aload_n hx hb dX8_doNext_102 rfl (lv_at hl 2 rfl) ?_
    refine lv_dup hx hb dX8_doNext_103 rfl ?_
    refine va_get (D := D) (ci := 7) (v := .int (σ.1 0 37)) (C := RX8) (T := TX8) (N := 50) hx hb hts in_X8_doNext_X8 hown hK hP 0 (wM_0 _ _ _ _ _) rfl 37 (by decide) (hts (.fieldLink RX8 247 "CallGraphsModel" "deep" "I") (List.mem_of_getElem? (i := 1) rfl)) (fun _ h9 => h9) (fM_0_37 _ _) dX8_doNext_104 ?_
    refine lv_iconst (v := 1) hx hb dX8_doNext_107 (by decide) ?_
    refine lv_isub hx hb dX8_doNext_108 ?_
    refine va_put (D := D) (ci := 7) (v := .int ((σ.1 0 37) - 1)) (ty := .int) (C := RX8) (T := TX8) (N := 50) hx hb hts in_X8_doNext_X8 tyX8 tyX8_ok nmX8 hown hK hP (hD _) hS 0 (wM_0 _ _ _ _ _) rfl 37 (by decide) (hts (.fieldLink RX8 247 "CallGraphsModel" "deep" "I") (List.mem_of_getElem? (i := 1) rfl)) (fun _ h9 => h9) rfl (tyX8_ok 37 (by decide)) rfl rfl (Nat.le_of_ble_eq_true rfl) dX8_doNext_109 (fun H locs hP _ hS => ?_)
    have hP := wM_p0_37 hP
    obtain ⟨s_109, es_109, hf⟩ := os_e hf
    rw [← es_109] at hP
    refine lv_aload_n hx hb dX8_doNext_112 rfl (lv_at hl 2 rfl) ?_
    refine va_get (D := D) (ci := 7) (v := .ref (ad 31)) (C := RX8) (T := TX8) (N := 50) hx hb hts in_X8_doNext_X8 hown hK hP 0 (wM_0 _ _ _ _ _) rfl 36 (by decide) (hts (.fieldLink RX8 101 "CallGraphsModel" "why" "[I") (List.mem_of_getElem? (i := 8) rfl)) (fun _ h9 => h9) (fM_0_36 _ _) dX8_doNext_113 ?_
    refine lv_iload_n hx hb dX8_doNext_116 rfl (lv_at hl 1 rfl) ?_
    obtain ⟨h_117, hf⟩ := oi_e hf
    refine va_iald hx hb hK hP 31 0 (wM_31 _ _ _ _ _) rfl h_117 dX8_doNext_117 ?_
    refine lv_istore_n (lv' := [(3, .int (s_109.1 31 ((σ.1 0 37) - 1).toNatClampNeg)), (2, .int (σ.1 29 ((σ.1 0 37) - 1).toNatClampNeg)), (1, .int ((σ.1 0 37) - 1)), (0, .ref (ad 0))]) hx hb dX8_doNext_118 rfl hl (by decide) rfl (fun ls hl => ?_)
    refine lv_aload_n hx hb dX8_doNext_119 rfl (lv_at hl 3 rfl) ?_
    refine va_get (D := D) (ci := 7) (v := .ref (ad 28)) (C := RX8) (T := TX8) (N := 50) hx hb hts in_X8_doNext_X8 hown hK hP 0 (wM_0 _ _ _ _ _) rfl 33 (by decide) (hts (.fieldLink RX8 92 "CallGraphsModel" "todo" "[I") (List.mem_of_getElem? (i := 3) rfl)) (fun _ h9 => h9) (fM_0_33 _ _) dX8_doNext_120 ?_
    refine lv_iload_n hx hb dX8_doNext_123 rfl (lv_at hl 2 rfl) ?_
    obtain ⟨h_124, hf⟩ := oi_e hf
    refine va_iald hx hb hK hP 28 0 (wM_28 _ _ _ _ _) rfl h_124 dX8_doNext_124 ?_
    refine lv_iconst (v := 1) hx hb dX8_doNext_125 (by decide) ?_
    refine lv_icmp_ne (tgt := 138) hx hb dX8_doNext_126 (by decide) (fun c_126 => ?_) (fun c_126 => ?_)
    · rw [if_neg c_126] at hf
      refine lv_aload_n hx hb dX8_doNext_138 rfl (lv_at hl 3 rfl) ?_
      refine va_get (D := D) (ci := 7) (v := .ref (ad 28)) (C := RX8) (T := TX8) (N := 50) hx hb hts in_X8_doNext_X8 hown hK hP 0 (wM_0 _ _ _ _ _) rfl 33 (by decide) (hts (.fieldLink RX8 92 "CallGraphsModel" "todo" "[I") (List.mem_of_getElem? (i := 3) rfl)) (fun _ h9 => h9) (fM_0_33 _ _) dX8_doNext_139 ?_
      refine lv_iload_n hx hb dX8_doNext_142 rfl (lv_at hl 2 rfl) ?_
      obtain ⟨h_143, hf⟩ := oi_e hf
      refine va_iald hx hb hK hP 28 0 (wM_28 _ _ _ _ _) rfl h_143 dX8_doNext_143 ?_
      refine lv_iconst (v := 2) hx hb dX8_doNext_144 (by decide) ?_
      refine lv_icmp_ne (tgt := 157) hx hb dX8_doNext_145 (by decide) (fun c_145 => ?_) (fun c_145 => ?_)
      · rw [if_neg c_145] at hf
        refine lv_aload_n hx hb dX8_doNext_157 rfl (lv_at hl 3 rfl) ?_
        refine lv_aload_n hx hb dX8_doNext_158 rfl (lv_at hl 3 rfl) ?_
        refine va_get (D := D) (ci := 7) (v := .int (s_109.1 0 43)) (C := RX8) (T := TX8) (N := 50) hx hb hts in_X8_doNext_X8 hown hK hP 0 (wM_0 _ _ _ _ _) rfl 43 (by decide) (hts (.fieldLink RX8 250 "CallGraphsModel" "isRight" "Z") (List.mem_of_getElem? (i := 9) rfl)) (fun _ h9 => h9) (fM_0_43 _ _) dX8_doNext_159 ?_
        refine lv_if_eq (tgt := 178) hx hb dX8_doNext_162 (by decide) (fun c_162 => ?_) (fun c_162 => ?_)
        · rw [if_pos c_162] at hf
          exact w_X8_doNext_178 hm hR hK hD (σ.1 29 ((σ.1 0 37) - 1).toNatClampNeg) s_109 hf _ _ _ hP hS (lv_sub hl [3, 1] rfl)
        · rw [if_neg c_162] at hf
          refine lv_aload_n hx hb dX8_doNext_165 rfl (lv_at hl 3 rfl) ?_
          refine va_get (D := D) (ci := 7) (v := .ref (ad 15)) (C := RX8) (T := TX8) (N := 50) hx hb hts in_X8_doNext_X8 hown hK hP 0 (wM_0 _ _ _ _ _) rfl 19 (by decide) (hts (.fieldLink RX8 53 "CallGraphsModel" "madeAt" "[Z") (List.mem_of_getElem? (i := 10) rfl)) (fun _ h9 => h9) (fM_0_19 _ _) dX8_doNext_166 ?_
          refine lv_iload_n hx hb dX8_doNext_169 rfl (lv_at hl 1 rfl) ?_
          obtain ⟨h_170, hf⟩ := oi_e hf
          refine va_zald hx hb hK hP 15 2 (wM_15 _ _ _ _ _) rfl h_170 dX8_doNext_170 ?_
          refine lv_if_eq (tgt := 178) hx hb dX8_doNext_171 (by decide) (fun c_171 => ?_) (fun c_171 => ?_)
          · rw [if_pos c_171] at hf
            exact w_X8_doNext_178 hm hR hK hD (σ.1 29 ((σ.1 0 37) - 1).toNatClampNeg) s_109 hf _ _ _ hP hS (lv_sub hl [3, 1] rfl)
          · rw [if_neg c_171] at hf
            refine lv_iconst (v := 1) hx hb dX8_doNext_174 (by decide) ?_
            refine lv_goto (tgt := 179) hx hb dX8_doNext_175 (by decide) ?_
            exact w_X8_doNext_179 hm hR hK hD (σ.1 29 ((σ.1 0 37) - 1).toNatClampNeg) 1 s_109 hf _ _ _ hP hS (lv_sub hl [3, 1] rfl)
      · rw [if_pos c_145] at hf
        refine lv_aload_n hx hb dX8_doNext_148 rfl (lv_at hl 3 rfl) ?_
        refine lv_iload_n hx hb dX8_doNext_149 rfl (lv_at hl 1 rfl) ?_
        refine lv_iload_n hx hb dX8_doNext_150 rfl (lv_at hl 0 rfl) ?_
        obtain ⟨r_151, hg_151, hf⟩ := oc_e hf
        refine mV_wv (wd := wM ad cI cJ cZ) (σ := s_109) (As := [.int (σ.1 29 ((σ.1 0 37) - 1).toNatClampNeg), .int (s_109.1 31 ((σ.1 0 37) - 1).toNatClampNeg)]) (rest := []) ⟨hx, hb, hml, hown, hts⟩ hK hP hD hS (c_X8_beginNow l D ad cI cJ cZ s_109 (σ.1 29 ((σ.1 0 37) - 1).toNatClampNeg) (s_109.1 31 ((σ.1 0 37) - 1).toNatClampNeg) hg_151) (cwV 2 hts gX8_doNext_X8_beginNow rfl rfl rfl hd_X8_beginNow ⟨Nat.le_trans (Nat.le_of_ble_eq_true rfl) hR.1, Nat.le_trans (Nat.le_of_ble_eq_true rfl) hR.2⟩) rfl (wM_0 _ _ _ _ _) rfl hl.1 rfl (Nat.le_of_ble_eq_true rfl) dX8_doNext_151 (fun H locs hP hS => ?_)
        refine lv_goto (tgt := 211) hx hb dX8_doNext_154 (by decide) ?_
        exact w_X8_doNext_211 hm hR hK hD r_151 hf _ _ _ hP hS (lv_sub hl [] rfl)
    · rw [if_pos c_126] at hf
      refine lv_aload_n hx hb dX8_doNext_129 rfl (lv_at hl 3 rfl) ?_
      refine lv_iload_n hx hb dX8_doNext_130 rfl (lv_at hl 1 rfl) ?_
      refine lv_iload_n hx hb dX8_doNext_131 rfl (lv_at hl 0 rfl) ?_
      obtain ⟨r_132, hg_132, hf⟩ := oc_e hf
      refine mV_wv (wd := wM ad cI cJ cZ) (σ := s_109) (As := [.int (σ.1 29 ((σ.1 0 37) - 1).toNatClampNeg), .int (s_109.1 31 ((σ.1 0 37) - 1).toNatClampNeg)]) (rest := []) ⟨hx, hb, hml, hown, hts⟩ hK hP hD hS (c_X8_runNow l D ad cI cJ cZ s_109 (σ.1 29 ((σ.1 0 37) - 1).toNatClampNeg) (s_109.1 31 ((σ.1 0 37) - 1).toNatClampNeg) hg_132) (cwV 2 hts gX8_doNext_X8_runNow rfl rfl rfl hd_X8_runNow ⟨Nat.le_trans (Nat.le_of_ble_eq_true rfl) hR.1, Nat.le_trans (Nat.le_of_ble_eq_true rfl) hR.2⟩) rfl (wM_0 _ _ _ _ _) rfl hl.1 rfl (Nat.le_of_ble_eq_true rfl) dX8_doNext_132 (fun H locs hP hS => ?_)
      refine lv_goto (tgt := 211) hx hb dX8_doNext_135 (by decide) ?_
      exact w_X8_doNext_211 hm hR hK hD r_132 hf _ _ _ hP hS (lv_sub hl [] rfl)
  · rw [if_pos c_20] at hf
    refine lv_aload_n hx hb dX8_doNext_23 rfl (lv_at hl 2 rfl) ?_
    refine va_get (D := D) (ci := 7) (v := .ref (ad 30)) (C := RX8) (T := TX8) (N := 50) hx hb hts in_X8_doNext_X8 hown hK hP 0 (wM_0 _ _ _ _ _) rfl 35 (by decide) (hts (.fieldLink RX8 98 "CallGraphsModel" "what2" "[I") (List.mem_of_getElem? (i := 4) rfl)) (fun _ h9 => h9) (fM_0_35 _ _) dX8_doNext_24 ?_
    refine lv_iload_n hx hb dX8_doNext_27 rfl (lv_at hl 1 rfl) ?_
    obtain ⟨h_28, hf⟩ := oi_e hf
    refine va_iald hx hb hK hP 30 0 (wM_30 _ _ _ _ _) rfl h_28 dX8_doNext_28 ?_
    refine lv_aload_n hx hb dX8_doNext_29 rfl (lv_at hl 2 rfl) ?_
    refine va_get (D := D) (ci := 7) (v := .ref (ad 9)) (C := RX8) (T := TX8) (N := 50) hx hb hts in_X8_doNext_X8 hown hK hP 0 (wM_0 _ _ _ _ _) rfl 10 (by decide) (hts (.fieldLink RX8 35 "CallGraphsModel" "opMany" "[I") (List.mem_of_getElem? (i := 5) rfl)) (fun _ h9 => h9) (fM_0_10 _ _) dX8_doNext_30 ?_
    refine lv_iload_n hx hb dX8_doNext_33 rfl (lv_at hl 0 rfl) ?_
    obtain ⟨h_34, hf⟩ := oi_e hf
    refine va_iald hx hb hK hP 9 0 (wM_9 _ _ _ _ _) rfl h_34 dX8_doNext_34 ?_
    refine lv_icmp_ne (tgt := 61) hx hb dX8_doNext_35 (by decide) (fun c_35 => ?_) (fun c_35 => ?_)
    · rw [if_neg c_35] at hf
      refine lv_aload_n hx hb dX8_doNext_61 rfl (lv_at hl 2 rfl) ?_
      refine va_get (D := D) (ci := 7) (v := .ref (ad 10)) (C := RX8) (T := TX8) (N := 50) hx hb hts in_X8_doNext_X8 hown hK hP 0 (wM_0 _ _ _ _ _) rfl 11 (by decide) (hts (.fieldLink RX8 38 "CallGraphsModel" "opAt" "[I") (List.mem_of_getElem? (i := 7) rfl)) (fun _ h9 => h9) (fM_0_11 _ _) dX8_doNext_62 ?_
      refine lv_bipush (v := 24) hx hb dX8_doNext_65 (by decide) ?_
      refine lv_iload_n hx hb dX8_doNext_67 rfl (lv_at hl 0 rfl) ?_
      refine lv_imul hx hb dX8_doNext_68 ?_
      refine lv_aload_n hx hb dX8_doNext_69 rfl (lv_at hl 2 rfl) ?_
      refine va_get (D := D) (ci := 7) (v := .ref (ad 30)) (C := RX8) (T := TX8) (N := 50) hx hb hts in_X8_doNext_X8 hown hK hP 0 (wM_0 _ _ _ _ _) rfl 35 (by decide) (hts (.fieldLink RX8 98 "CallGraphsModel" "what2" "[I") (List.mem_of_getElem? (i := 4) rfl)) (fun _ h9 => h9) (fM_0_35 _ _) dX8_doNext_70 ?_
      refine lv_iload_n hx hb dX8_doNext_73 rfl (lv_at hl 1 rfl) ?_
      obtain ⟨h_74, hf⟩ := oi_e hf
      refine va_iald hx hb hK hP 30 0 (wM_30 _ _ _ _ _) rfl h_74 dX8_doNext_74 ?_
      refine lv_iadd hx hb dX8_doNext_75 ?_
      obtain ⟨h_76, hf⟩ := oi_e hf
      refine va_iald hx hb hK hP 10 0 (wM_10 _ _ _ _ _) rfl h_76 dX8_doNext_76 ?_
      refine lv_istore_n (lv' := [(3, .int (σ.1 10 ((24 * (σ.1 29 ((σ.1 0 37) - 1).toNatClampNeg)) + (σ.1 30 ((σ.1 0 37) - 1).toNatClampNeg)).toNatClampNeg)), (2, .int (σ.1 29 ((σ.1 0 37) - 1).toNatClampNeg)), (1, .int ((σ.1 0 37) - 1)), (0, .ref (ad 0))]) hx hb dX8_doNext_77 rfl hl (by decide) rfl (fun ls hl => ?_)
      refine lv_aload_n hx hb dX8_doNext_78 rfl (lv_at hl 3 rfl) ?_
      refine va_get (D := D) (ci := 7) (v := .ref (ad 30)) (C := RX8) (T := TX8) (N := 50) hx hb hts in_X8_doNext_X8 hown hK hP 0 (wM_0 _ _ _ _ _) rfl 35 (by decide) (hts (.fieldLink RX8 98 "CallGraphsModel" "what2" "[I") (List.mem_of_getElem? (i := 4) rfl)) (fun _ h9 => h9) (fM_0_35 _ _) dX8_doNext_79 ?_
      refine lv_iload_n hx hb dX8_doNext_82 rfl (lv_at hl 2 rfl) ?_
      refine lv_dup2_11 hx hb dX8_doNext_83 rfl rfl ?_
      obtain ⟨h_84, hf⟩ := oi_e hf
      refine va_iald hx hb hK hP 30 0 (wM_30 _ _ _ _ _) rfl h_84 dX8_doNext_84 ?_
      refine lv_iconst (v := 1) hx hb dX8_doNext_85 (by decide) ?_
      refine lv_iadd hx hb dX8_doNext_86 ?_
      obtain ⟨h_87, hf⟩ := oi_e hf
      refine va_iast hx hb hK hP (hD _) hS 30 0 (wM_30 _ _ _ _ _) rfl h_87 dX8_doNext_87 (fun H locs hP _ hS => ?_)
      have hP := wM_s30 hP
      obtain ⟨s_87, es_87, hf⟩ := os_e hf
      rw [← es_87] at hP
      refine lv_aload_n hx hb dX8_doNext_88 rfl (lv_at hl 3 rfl) ?_
      refine lv_iconst (v := 4) hx hb dX8_doNext_89 (by decide) ?_
      obtain ⟨r_90, hg_90, hf⟩ := oc_e hf
      refine mV_wi (wd := wM ad cI cJ cZ) (σ := s_87) (As := [.int 4]) (rest := []) ⟨hx, hb, hml, hown, hts⟩ hK hP hD hS (c_X8_draw l D ad cI cJ cZ s_87 4 hg_90) (cwV 1 hts gX8_doNext_X8_draw rfl rfl rfl hd_X8_draw ⟨Nat.le_trans (Nat.le_of_ble_eq_true rfl) hR.1, Nat.le_trans (Nat.le_of_ble_eq_true rfl) hR.2⟩) rfl (wM_0 _ _ _ _ _) rfl hl.1 rfl (Nat.le_of_ble_eq_true rfl) dX8_doNext_90 (fun H locs hP hS => ?_)
      refine lv_if_eq (tgt := 101) hx hb dX8_doNext_93 (by decide) (fun c_93 => ?_) (fun c_93 => ?_)
      · rw [if_pos c_93] at hf
        exact w_X8_doNext_101 hm hR hK hD r_90.2 hf _ _ _ hP hS (lv_sub hl [] rfl)
      · rw [if_neg c_93] at hf
        refine lv_aload_n hx hb dX8_doNext_96 rfl (lv_at hl 3 rfl) ?_
        refine lv_iload_n hx hb dX8_doNext_97 rfl (lv_at hl 0 rfl) ?_
        obtain ⟨r_98, hg_98, hf⟩ := oc_e hf
        refine mV_wv (wd := wM ad cI cJ cZ) (σ := r_90.2) (As := [.int (σ.1 10 ((24 * (σ.1 29 ((σ.1 0 37) - 1).toNatClampNeg)) + (σ.1 30 ((σ.1 0 37) - 1).toNatClampNeg)).toNatClampNeg)]) (rest := []) ⟨hx, hb, hml, hown, hts⟩ hK hP hD hS (c_X8_runOp l D ad cI cJ cZ r_90.2 (σ.1 10 ((24 * (σ.1 29 ((σ.1 0 37) - 1).toNatClampNeg)) + (σ.1 30 ((σ.1 0 37) - 1).toNatClampNeg)).toNatClampNeg) hg_98) (cwV 1 hts gX8_doNext_X8_runOp rfl rfl rfl hd_X8_runOp ⟨Nat.le_trans (Nat.le_of_ble_eq_true rfl) hR.1, Nat.le_trans (Nat.le_of_ble_eq_true rfl) hR.2⟩) rfl (wM_0 _ _ _ _ _) rfl hl.1 rfl (Nat.le_of_ble_eq_true rfl) dX8_doNext_98 (fun H locs hP hS => ?_)
        exact w_X8_doNext_101 hm hR hK hD r_98 hf _ _ _ hP hS (lv_sub hl [] rfl)
    · rw [if_pos c_35] at hf
      refine lv_aload_n hx hb dX8_doNext_38 rfl (lv_at hl 2 rfl) ?_
      refine lv_dup hx hb dX8_doNext_39 rfl ?_
      refine va_get (D := D) (ci := 7) (v := .int (σ.1 0 37)) (C := RX8) (T := TX8) (N := 50) hx hb hts in_X8_doNext_X8 hown hK hP 0 (wM_0 _ _ _ _ _) rfl 37 (by decide) (hts (.fieldLink RX8 247 "CallGraphsModel" "deep" "I") (List.mem_of_getElem? (i := 1) rfl)) (fun _ h9 => h9) (fM_0_37 _ _) dX8_doNext_40 ?_
      refine lv_iconst (v := 1) hx hb dX8_doNext_43 (by decide) ?_
      refine lv_isub hx hb dX8_doNext_44 ?_
      refine va_put (D := D) (ci := 7) (v := .int ((σ.1 0 37) - 1)) (ty := .int) (C := RX8) (T := TX8) (N := 50) hx hb hts in_X8_doNext_X8 tyX8 tyX8_ok nmX8 hown hK hP (hD _) hS 0 (wM_0 _ _ _ _ _) rfl 37 (by decide) (hts (.fieldLink RX8 247 "CallGraphsModel" "deep" "I") (List.mem_of_getElem? (i := 1) rfl)) (fun _ h9 => h9) rfl (tyX8_ok 37 (by decide)) rfl rfl (Nat.le_of_ble_eq_true rfl) dX8_doNext_45 (fun H locs hP _ hS => ?_)
      have hP := wM_p0_37 hP
      obtain ⟨s_45, es_45, hf⟩ := os_e hf
      rw [← es_45] at hP
      refine lv_aload_n hx hb dX8_doNext_48 rfl (lv_at hl 2 rfl) ?_
      refine lv_dup hx hb dX8_doNext_49 rfl ?_
      refine va_get (D := D) (ci := 7) (v := .int (s_45.1 0 40)) (C := RX8) (T := TX8) (N := 50) hx hb hts in_X8_doNext_X8 hown hK hP 0 (wM_0 _ _ _ _ _) rfl 40 (by decide) (hts (.fieldLink RX8 253 "CallGraphsModel" "running" "I") (List.mem_of_getElem? (i := 6) rfl)) (fun _ h9 => h9) (fM_0_40 _ _) dX8_doNext_50 ?_
      refine lv_iconst (v := 1) hx hb dX8_doNext_53 (by decide) ?_
      refine lv_isub hx hb dX8_doNext_54 ?_
      refine va_put (D := D) (ci := 7) (v := .int ((s_45.1 0 40) - 1)) (ty := .int) (C := RX8) (T := TX8) (N := 50) hx hb hts in_X8_doNext_X8 tyX8 tyX8_ok nmX8 hown hK hP (hD _) hS 0 (wM_0 _ _ _ _ _) rfl 40 (by decide) (hts (.fieldLink RX8 253 "CallGraphsModel" "running" "I") (List.mem_of_getElem? (i := 6) rfl)) (fun _ h9 => h9) rfl (tyX8_ok 40 (by decide)) rfl rfl (Nat.le_of_ble_eq_true rfl) dX8_doNext_55 (fun H locs hP _ hS => ?_)
      have hP := wM_p0_40 hP
      obtain ⟨s_55, es_55, hf⟩ := os_e hf
      rw [← es_55] at hP
      refine lv_goto (tgt := 101) hx hb dX8_doNext_58 (by decide) ?_
      exact w_X8_doNext_101 hm hR hK hD s_55 hf _ _ _ hP hS (lv_sub hl [] rfl)
theorem hd_X8_doNext : yX8_doNext.cls = RX8 ∧ yX8_doNext.cls ≠ "java/lang/invoke/MethodHandle" ∧ yX8_doNext.cls ≠ "java/lang/invoke/VarHandle" ∧ (parseMethodDescriptor yX8_doNext.desc).map (fun d => d.parameters.length) = some 0 := by decide +kernel
set_option maxHeartbeats 4000000 in
set_option maxRecDepth 100000 in
theorem c_X8_doNext (l : Launch) (D : va_G) (ad : Nat → Nat) (cI cJ cZ : ClassId) (σ : SS) {res : SS} (hf : p_X8_doNext_0 σ = some res) : Met l yX8_doNext wsX8_doNext ({ frames := 7, cells := 0, slots := 0, locals := 176 } : Room) (PW D (tyw cI cJ cZ) (wM ad cI cJ cZ σ) [.ref (ad 0)]) (va_Qv (fun (u : SS) => u = res) (fun u t => va_P D vwCl (wM ad cI cJ cZ u) t.heap) (aM ad)) 0 0 (aM ad) := by
  refine Met.ofW (cc := cX8_doNext) (maxL := 4) (ret := none) (by decide) rfl ?_
  intro p e s m args below meth c s₁ B hml hv
  obtain ⟨rfl, hP, hK, hD0⟩ := hv
  have hD : ∀ σ, va_D (aM ad) (wM ad cI cJ cZ σ) := fun σ => wd_D hD0 (wM_map _ _ _ _ _) (wM_map _ _ _ _ _)
  have hm : mx p s m _ meth c cX8_doNext 4 none wsX8_doNext RX8 := ⟨B.exec, B.bytes, B.returns, hml, findClass_of_methodNamed B.named, atoms_spec (ws := wsX8_doNext) B.pre, B.notSynchronized⟩
  have hl := lv_entry ([.ref (ad 0)]) (n := 4) (Nat.le_of_ble_eq_true rfl)
  rw [lg_entry_eq]
  generalize (lg_sl ([.ref (ad 0)]) ++ List.replicate (4 - (lg_sl ([.ref (ad 0)])).length) Slot.unset).toArray = ls at hl ⊢
  exact w_X8_doNext_0 hm ⟨Nat.le_refl _, Nat.le_refl _⟩ hK hD σ hf _ _ _ hP va_S.rf hl
/-! CallGraphsModel.runAll(J)V -/
theorem in_X8_runAll_X8 : ∀ w ∈ u_ws RX8 TX8 50, w ∈ wsX8_runAll := fun w h => List.mem_cons_of_mem _ (List.mem_append_right _ h)
def p_X8_runAll_146 (k108 : Int32 → SS → Option (SS)) (v3 : Int32) (σ : SS) : Option (SS) := k108 (v3 + 1) σ
set_option maxHeartbeats 4000000 in
set_option maxRecDepth 100000 in
theorem w_X8_runAll_146 {p : Program} {l : Launch} {e : Env} {R : Room} {s : State} {m : MethodId} {args : Array Value} {below : List Frame} {meth : Method} {c : Code} {D : va_G} {ad : Nat → Nat} {cI cJ cZ : ClassId} {res : SS} (hm : mx p s m args meth c cX8_runAll 4 none wsX8_runAll RX8) (hR : 8 ≤ R.frames ∧ 199 ≤ R.locals) (hK : va_K D vwCl (tyw cI cJ cZ) s) (hD : ∀ σ, va_D (aM ad) (wM ad cI cJ cZ σ)) (k108 : Int32 → SS → Option (SS)) (hk108 : ∀ (v3 : Int32) (σ : SS), k108 v3 σ = some res → ∀ (H : Heap) (locs : List Loc) (ls : Array Slot), va_P D vwCl (wM ad cI cJ cZ σ) H → va_S (aM ad) s.heap H locs → lv_has ls 4 [(0, .ref (ad 0)), (3, .int v3)] → W p l e R s m args below meth c H locs 0 0 (MQ below (va_Qv (fun (u : SS) => u = res) (fun u t => va_P D vwCl (wM ad cI cJ cZ u) t.heap) (aM ad)) args s 0 0 (aM ad)) (F0 m 108 ls [])) (v3 : Int32) (σ : SS) (hf : p_X8_runAll_146 k108 v3 σ = some res) (H : Heap) (locs : List Loc) (ls : Array Slot) (hP : va_P D vwCl (wM ad cI cJ cZ σ) H) (hS : va_S (aM ad) s.heap H locs) (hl : lv_has ls 4 [(0, .ref (ad 0)), (3, .int v3)]) : W p l e R s m args below meth c H locs 0 0 (MQ below (va_Qv (fun (u : SS) => u = res) (fun u t => va_P D vwCl (wM ad cI cJ cZ u) t.heap) (aM ad)) args s 0 0 (aM ad)) (F0 m 146 ls []) := by
  obtain ⟨hx, hb, hr, hml, hown, hts, hlk⟩ := id hm
  unfold p_X8_runAll_146 at hf
  refine lv_iinc (v := (v3 + 1)) (lv' := [(3, .int (v3 + 1)), (0, .ref (ad 0))]) hx hb dX8_runAll_146 hl (k := 1) rfl rfl (by decide) rfl (fun ls hl => ?_)
  refine lv_goto (tgt := 108) hx hb dX8_runAll_149 (by decide) ?_
  exact hk108 (v3 + 1) σ hf _ _ _ hP hS (lv_sub hl [1, 0] rfl)
def p_X8_runAll_132 (k108 : Int32 → SS → Option (SS)) : Nat → Int32 → SS → Option (SS)
  | 0, _, _ => none
  | n + 1, v3, σ => let k132 := p_X8_runAll_132 k108 n; if (σ.1 0 37) ≤ 0 then p_X8_runAll_146 k108 v3 σ else oc (p_X8_doNext_0 σ) (fun r_140 => k132 v3 r_140)
set_option maxHeartbeats 4000000 in
set_option maxRecDepth 100000 in
theorem w_X8_runAll_132 {p : Program} {l : Launch} {e : Env} {R : Room} {s : State} {m : MethodId} {args : Array Value} {below : List Frame} {meth : Method} {c : Code} {D : va_G} {ad : Nat → Nat} {cI cJ cZ : ClassId} {res : SS} (hm : mx p s m args meth c cX8_runAll 4 none wsX8_runAll RX8) (hR : 8 ≤ R.frames ∧ 199 ≤ R.locals) (hK : va_K D vwCl (tyw cI cJ cZ) s) (hD : ∀ σ, va_D (aM ad) (wM ad cI cJ cZ σ)) (k108 : Int32 → SS → Option (SS)) (hk108 : ∀ (v3 : Int32) (σ : SS), k108 v3 σ = some res → ∀ (H : Heap) (locs : List Loc) (ls : Array Slot), va_P D vwCl (wM ad cI cJ cZ σ) H → va_S (aM ad) s.heap H locs → lv_has ls 4 [(0, .ref (ad 0)), (3, .int v3)] → W p l e R s m args below meth c H locs 0 0 (MQ below (va_Qv (fun (u : SS) => u = res) (fun u t => va_P D vwCl (wM ad cI cJ cZ u) t.heap) (aM ad)) args s 0 0 (aM ad)) (F0 m 108 ls [])) : ∀ (n : Nat) (v3 : Int32) (σ : SS), p_X8_runAll_132 k108 n v3 σ = some res → ∀ (H : Heap) (locs : List Loc) (ls : Array Slot), va_P D vwCl (wM ad cI cJ cZ σ) H → va_S (aM ad) s.heap H locs → lv_has ls 4 [(0, .ref (ad 0)), (3, .int v3)] → W p l e R s m args below meth c H locs 0 0 (MQ below (va_Qv (fun (u : SS) => u = res) (fun u t => va_P D vwCl (wM ad cI cJ cZ u) t.heap) (aM ad)) args s 0 0 (aM ad)) (F0 m 132 ls []) := by
  obtain ⟨hx, hb, hr, hml, hown, hts, hlk⟩ := id hm
  intro n
  induction n with
  | zero =>
    intro _ _ hf
    cases hf
  | succ n hk132 =>
    intro v3 σ hf H locs ls hP hS hl
    rw [p_X8_runAll_132] at hf
    try dsimp only at hf
    refine lv_aload_n hx hb dX8_runAll_132 rfl (lv_at hl 0 rfl) ?_
    refine va_get (D := D) (ci := 7) (v := .int (σ.1 0 37)) (C := RX8) (T := TX8) (N := 50) hx hb hts in_X8_runAll_X8 hown hK hP 0 (wM_0 _ _ _ _ _) rfl 37 (by decide) (hts (.fieldLink RX8 247 "CallGraphsModel" "deep" "I") (List.mem_of_getElem? (i := 8) rfl)) (fun _ h9 => h9) (fM_0_37 _ _) dX8_runAll_133 ?_
    refine lv_if_le (tgt := 146) hx hb dX8_runAll_136 (by decide) (fun c_136 => ?_) (fun c_136 => ?_)
    · rw [if_pos c_136] at hf
      exact w_X8_runAll_146 hm hR hK hD k108 hk108 v3 σ hf _ _ _ hP hS (lv_sub hl [0, 1] rfl)
    · rw [if_neg c_136] at hf
      refine lv_aload_n hx hb dX8_runAll_139 rfl (lv_at hl 0 rfl) ?_
      obtain ⟨r_140, hg_140, hf⟩ := oc_e hf
      refine mV_wv (wd := wM ad cI cJ cZ) (σ := σ) (As := []) (rest := []) ⟨hx, hb, hml, hown, hts⟩ hK hP hD hS (c_X8_doNext l D ad cI cJ cZ σ hg_140) (cwV 0 hts gX8_runAll_X8_doNext rfl rfl rfl hd_X8_doNext ⟨Nat.le_trans (Nat.le_of_ble_eq_true rfl) hR.1, Nat.le_trans (Nat.le_of_ble_eq_true rfl) hR.2⟩) rfl (wM_0 _ _ _ _ _) rfl hl.1 rfl (Nat.le_of_ble_eq_true rfl) dX8_runAll_140 (fun H locs hP hS => ?_)
      refine lv_goto (tgt := 132) hx hb dX8_runAll_143 (by decide) ?_
      exact hk132 v3 r_140 hf _ _ _ hP hS (lv_sub hl [0, 1] rfl)
def p_X8_runAll_108 : Nat → Int32 → SS → Option (SS)
  | 0, _, _ => none
  | n + 1, v3, σ => let k108 := p_X8_runAll_108 n; if (σ.1 0 5) ≤ v3 then some σ else oi v3 48 (if (σ.1 8 v3.toNatClampNeg) = 0 then p_X8_runAll_146 k108 v3 σ else oc (p_X8_push_0 1 v3 (-1) σ) (fun r_129 => p_X8_runAll_132 k108 100000 v3 r_129))
set_option maxHeartbeats 4000000 in
set_option maxRecDepth 100000 in
theorem w_X8_runAll_108 {p : Program} {l : Launch} {e : Env} {R : Room} {s : State} {m : MethodId} {args : Array Value} {below : List Frame} {meth : Method} {c : Code} {D : va_G} {ad : Nat → Nat} {cI cJ cZ : ClassId} {res : SS} (hm : mx p s m args meth c cX8_runAll 4 none wsX8_runAll RX8) (hR : 8 ≤ R.frames ∧ 199 ≤ R.locals) (hK : va_K D vwCl (tyw cI cJ cZ) s) (hD : ∀ σ, va_D (aM ad) (wM ad cI cJ cZ σ)) : ∀ (n : Nat) (v3 : Int32) (σ : SS), p_X8_runAll_108 n v3 σ = some res → ∀ (H : Heap) (locs : List Loc) (ls : Array Slot), va_P D vwCl (wM ad cI cJ cZ σ) H → va_S (aM ad) s.heap H locs → lv_has ls 4 [(0, .ref (ad 0)), (3, .int v3)] → W p l e R s m args below meth c H locs 0 0 (MQ below (va_Qv (fun (u : SS) => u = res) (fun u t => va_P D vwCl (wM ad cI cJ cZ u) t.heap) (aM ad)) args s 0 0 (aM ad)) (F0 m 108 ls []) := by
  obtain ⟨hx, hb, hr, hml, hown, hts, hlk⟩ := id hm
  intro n
  induction n with
  | zero =>
    intro _ _ hf
    cases hf
  | succ n hk108 =>
    intro v3 σ hf H locs ls hP hS hl
    rw [p_X8_runAll_108] at hf
    try dsimp only at hf
    refine lv_iload_n hx hb dX8_runAll_108 rfl (lv_at hl 1 rfl) ?_
    refine lv_aload_n hx hb dX8_runAll_109 rfl (lv_at hl 0 rfl) ?_
    refine va_get (D := D) (ci := 7) (v := .int (σ.1 0 5)) (C := RX8) (T := TX8) (N := 50) hx hb hts in_X8_runAll_X8 hown hK hP 0 (wM_0 _ _ _ _ _) rfl 5 (by decide) (hts (.fieldLink RX8 131 "CallGraphsModel" "members" "I") (List.mem_of_getElem? (i := 12) rfl)) (fun _ h9 => h9) (fM_0_5 _ _) dX8_runAll_110 ?_
    refine lv_icmp_ge (tgt := 152) hx hb dX8_runAll_113 (by decide) (fun c_113 => ?_) (fun c_113 => ?_)
    · rw [if_pos c_113] at hf
      exact rt_v (wd := wM ad cI cJ cZ) hx hb hr hlk (Option.some.inj hf) hP hS dX8_runAll_152
    · rw [if_neg c_113] at hf
      refine lv_aload_n hx hb dX8_runAll_116 rfl (lv_at hl 0 rfl) ?_
      refine va_get (D := D) (ci := 7) (v := .ref (ad 8)) (C := RX8) (T := TX8) (N := 50) hx hb hts in_X8_runAll_X8 hown hK hP 0 (wM_0 _ _ _ _ _) rfl 9 (by decide) (hts (.fieldLink RX8 31 "CallGraphsModel" "isRoot" "[Z") (List.mem_of_getElem? (i := 13) rfl)) (fun _ h9 => h9) (fM_0_9 _ _) dX8_runAll_117 ?_
      refine lv_iload_n hx hb dX8_runAll_120 rfl (lv_at hl 1 rfl) ?_
      obtain ⟨h_121, hf⟩ := oi_e hf
      refine va_zald hx hb hK hP 8 2 (wM_8 _ _ _ _ _) rfl h_121 dX8_runAll_121 ?_
      refine lv_if_eq (tgt := 146) hx hb dX8_runAll_122 (by decide) (fun c_122 => ?_) (fun c_122 => ?_)
      · rw [if_pos c_122] at hf
        exact w_X8_runAll_146 hm hR hK hD (p_X8_runAll_108 n) hk108 v3 σ hf _ _ _ hP hS (lv_sub hl [0, 1] rfl)
      · rw [if_neg c_122] at hf
        refine lv_aload_n hx hb dX8_runAll_125 rfl (lv_at hl 0 rfl) ?_
        refine lv_iconst (v := 1) hx hb dX8_runAll_126 (by decide) ?_
        refine lv_iload_n hx hb dX8_runAll_127 rfl (lv_at hl 1 rfl) ?_
        refine lv_iconst (v := (-1)) hx hb dX8_runAll_128 (by decide) ?_
        obtain ⟨r_129, hg_129, hf⟩ := oc_e hf
        refine mV_wv (wd := wM ad cI cJ cZ) (σ := σ) (As := [.int 1, .int v3, .int (-1)]) (rest := []) ⟨hx, hb, hml, hown, hts⟩ hK hP hD hS (c_X8_push l D ad cI cJ cZ σ 1 v3 (-1) hg_129) (cwV 3 hts gX8_runAll_X8_push rfl rfl rfl hd_X8_push ⟨Nat.le_trans (Nat.le_of_ble_eq_true rfl) hR.1, Nat.le_trans (Nat.le_of_ble_eq_true rfl) hR.2⟩) rfl (wM_0 _ _ _ _ _) rfl hl.1 rfl (Nat.le_of_ble_eq_true rfl) dX8_runAll_129 (fun H locs hP hS => ?_)
        exact w_X8_runAll_132 hm hR hK hD (p_X8_runAll_108 n) hk108 100000 v3 r_129 hf _ _ _ hP hS (lv_sub hl [0, 1] rfl)
def p_X8_runAll_88 : Nat → Int32 → SS → Option (SS)
  | 0, _, _ => none
  | n + 1, v3, σ => let k88 := p_X8_runAll_88 n; if 4 ≤ v3 then p_X8_runAll_108 100000 0 σ else oi v3 4 (os (sI σ 36 (v3.toNatClampNeg) 0) (fun s_99 => k88 (v3 + 1) s_99))
set_option maxHeartbeats 4000000 in
set_option maxRecDepth 100000 in
theorem w_X8_runAll_88 {p : Program} {l : Launch} {e : Env} {R : Room} {s : State} {m : MethodId} {args : Array Value} {below : List Frame} {meth : Method} {c : Code} {D : va_G} {ad : Nat → Nat} {cI cJ cZ : ClassId} {res : SS} (hm : mx p s m args meth c cX8_runAll 4 none wsX8_runAll RX8) (hR : 8 ≤ R.frames ∧ 199 ≤ R.locals) (hK : va_K D vwCl (tyw cI cJ cZ) s) (hD : ∀ σ, va_D (aM ad) (wM ad cI cJ cZ σ)) : ∀ (n : Nat) (v3 : Int32) (σ : SS), p_X8_runAll_88 n v3 σ = some res → ∀ (H : Heap) (locs : List Loc) (ls : Array Slot), va_P D vwCl (wM ad cI cJ cZ σ) H → va_S (aM ad) s.heap H locs → lv_has ls 4 [(0, .ref (ad 0)), (3, .int v3)] → W p l e R s m args below meth c H locs 0 0 (MQ below (va_Qv (fun (u : SS) => u = res) (fun u t => va_P D vwCl (wM ad cI cJ cZ u) t.heap) (aM ad)) args s 0 0 (aM ad)) (F0 m 88 ls []) := by
  obtain ⟨hx, hb, hr, hml, hown, hts, hlk⟩ := id hm
  intro n
  induction n with
  | zero =>
    intro _ _ hf
    cases hf
  | succ n hk88 =>
    intro v3 σ hf H locs ls hP hS hl
    rw [p_X8_runAll_88] at hf
    try dsimp only at hf
    refine lv_iload_n hx hb dX8_runAll_88 rfl (lv_at hl 1 rfl) ?_
    refine lv_iconst (v := 4) hx hb dX8_runAll_89 (by decide) ?_
    refine lv_icmp_ge (tgt := 106) hx hb dX8_runAll_90 (by decide) (fun c_90 => ?_) (fun c_90 => ?_)
    · rw [if_pos c_90] at hf
      refine lv_iconst (v := 0) hx hb dX8_runAll_106 (by decide) ?_
      refine lv_istore_n (lv' := [(3, .int 0), (0, .ref (ad 0))]) hx hb dX8_runAll_107 rfl hl (by decide) rfl (fun ls hl => ?_)
      exact w_X8_runAll_108 hm hR hK hD 100000 0 σ hf _ _ _ hP hS (lv_sub hl [1, 0] rfl)
    · rw [if_neg c_90] at hf
      refine lv_aload_n hx hb dX8_runAll_93 rfl (lv_at hl 0 rfl) ?_
      refine va_get (D := D) (ci := 7) (v := .ref (ad 36)) (C := RX8) (T := TX8) (N := 50) hx hb hts in_X8_runAll_X8 hown hK hP 0 (wM_0 _ _ _ _ _) rfl 49 (by decide) (hts (.fieldLink RX8 116 "CallGraphsModel" "bagMany" "[I") (List.mem_of_getElem? (i := 11) rfl)) (fun _ h9 => h9) (fM_0_49 _ _) dX8_runAll_94 ?_
      refine lv_iload_n hx hb dX8_runAll_97 rfl (lv_at hl 1 rfl) ?_
      refine lv_iconst (v := 0) hx hb dX8_runAll_98 (by decide) ?_
      obtain ⟨h_99, hf⟩ := oi_e hf
      refine va_iast hx hb hK hP (hD _) hS 36 0 (wM_36 _ _ _ _ _) rfl h_99 dX8_runAll_99 (fun H locs hP _ hS => ?_)
      have hP := wM_s36 hP
      obtain ⟨s_99, es_99, hf⟩ := os_e hf
      rw [← es_99] at hP
      refine lv_iinc (v := (v3 + 1)) (lv' := [(3, .int (v3 + 1)), (0, .ref (ad 0))]) hx hb dX8_runAll_100 hl (k := 1) rfl rfl (by decide) rfl (fun ls hl => ?_)
      refine lv_goto (tgt := 88) hx hb dX8_runAll_103 (by decide) ?_
      exact hk88 (v3 + 1) s_99 hf _ _ _ hP hS (lv_sub hl [1, 0] rfl)
def p_X8_runAll_67 : Nat → Int32 → SS → Option (SS)
  | 0, _, _ => none
  | n + 1, v3, σ => let k67 := p_X8_runAll_67 n; if 16 ≤ v3 then p_X8_runAll_88 100000 0 σ else oi v3 16 (os (sI σ 33 (v3.toNatClampNeg) 0) (fun s_79 => k67 (v3 + 1) s_79))
set_option maxHeartbeats 4000000 in
set_option maxRecDepth 100000 in
theorem w_X8_runAll_67 {p : Program} {l : Launch} {e : Env} {R : Room} {s : State} {m : MethodId} {args : Array Value} {below : List Frame} {meth : Method} {c : Code} {D : va_G} {ad : Nat → Nat} {cI cJ cZ : ClassId} {res : SS} (hm : mx p s m args meth c cX8_runAll 4 none wsX8_runAll RX8) (hR : 8 ≤ R.frames ∧ 199 ≤ R.locals) (hK : va_K D vwCl (tyw cI cJ cZ) s) (hD : ∀ σ, va_D (aM ad) (wM ad cI cJ cZ σ)) : ∀ (n : Nat) (v3 : Int32) (σ : SS), p_X8_runAll_67 n v3 σ = some res → ∀ (H : Heap) (locs : List Loc) (ls : Array Slot), va_P D vwCl (wM ad cI cJ cZ σ) H → va_S (aM ad) s.heap H locs → lv_has ls 4 [(0, .ref (ad 0)), (3, .int v3)] → W p l e R s m args below meth c H locs 0 0 (MQ below (va_Qv (fun (u : SS) => u = res) (fun u t => va_P D vwCl (wM ad cI cJ cZ u) t.heap) (aM ad)) args s 0 0 (aM ad)) (F0 m 67 ls []) := by
  obtain ⟨hx, hb, hr, hml, hown, hts, hlk⟩ := id hm
  intro n
  induction n with
  | zero =>
    intro _ _ hf
    cases hf
  | succ n hk67 =>
    intro v3 σ hf H locs ls hP hS hl
    rw [p_X8_runAll_67] at hf
    try dsimp only at hf
    refine lv_iload_n hx hb dX8_runAll_67 rfl (lv_at hl 1 rfl) ?_
    refine lv_bipush (v := 16) hx hb dX8_runAll_68 (by decide) ?_
    refine lv_icmp_ge (tgt := 86) hx hb dX8_runAll_70 (by decide) (fun c_70 => ?_) (fun c_70 => ?_)
    · rw [if_pos c_70] at hf
      refine lv_iconst (v := 0) hx hb dX8_runAll_86 (by decide) ?_
      refine lv_istore_n (lv' := [(3, .int 0), (0, .ref (ad 0))]) hx hb dX8_runAll_87 rfl hl (by decide) rfl (fun ls hl => ?_)
      exact w_X8_runAll_88 hm hR hK hD 100000 0 σ hf _ _ _ hP hS (lv_sub hl [1, 0] rfl)
    · rw [if_neg c_70] at hf
      refine lv_aload_n hx hb dX8_runAll_73 rfl (lv_at hl 0 rfl) ?_
      refine va_get (D := D) (ci := 7) (v := .ref (ad 33)) (C := RX8) (T := TX8) (N := 50) hx hb hts in_X8_runAll_X8 hown hK hP 0 (wM_0 _ _ _ _ _) rfl 45 (by decide) (hts (.fieldLink RX8 107 "CallGraphsModel" "begunNow" "[Z") (List.mem_of_getElem? (i := 10) rfl)) (fun _ h9 => h9) (fM_0_45 _ _) dX8_runAll_74 ?_
      refine lv_iload_n hx hb dX8_runAll_77 rfl (lv_at hl 1 rfl) ?_
      refine lv_iconst (v := 0) hx hb dX8_runAll_78 (by decide) ?_
      obtain ⟨h_79, hf⟩ := oi_e hf
      refine va_zast hx hb hK hP (hD _) hS 33 2 (wM_33 _ _ _ _ _) rfl h_79 dX8_runAll_79 (fun H locs hP _ hS => ?_)
      rw [nb_a (Or.inl rfl)] at hP
      have hP := wM_s33 hP
      obtain ⟨s_79, es_79, hf⟩ := os_e hf
      rw [← es_79] at hP
      refine lv_iinc (v := (v3 + 1)) (lv' := [(3, .int (v3 + 1)), (0, .ref (ad 0))]) hx hb dX8_runAll_80 hl (k := 1) rfl rfl (by decide) rfl (fun ls hl => ?_)
      refine lv_goto (tgt := 67) hx hb dX8_runAll_83 (by decide) ?_
      exact hk67 (v3 + 1) s_79 hf _ _ _ hP hS (lv_sub hl [1, 0] rfl)
def p_X8_runAll_46 : Nat → Int32 → SS → Option (SS)
  | 0, _, _ => none
  | n + 1, v3, σ => let k46 := p_X8_runAll_46 n; if 48 ≤ v3 then p_X8_runAll_67 100000 0 σ else oi v3 48 (os (sI σ 32 (v3.toNatClampNeg) 0) (fun s_58 => k46 (v3 + 1) s_58))
set_option maxHeartbeats 4000000 in
set_option maxRecDepth 100000 in
theorem w_X8_runAll_46 {p : Program} {l : Launch} {e : Env} {R : Room} {s : State} {m : MethodId} {args : Array Value} {below : List Frame} {meth : Method} {c : Code} {D : va_G} {ad : Nat → Nat} {cI cJ cZ : ClassId} {res : SS} (hm : mx p s m args meth c cX8_runAll 4 none wsX8_runAll RX8) (hR : 8 ≤ R.frames ∧ 199 ≤ R.locals) (hK : va_K D vwCl (tyw cI cJ cZ) s) (hD : ∀ σ, va_D (aM ad) (wM ad cI cJ cZ σ)) : ∀ (n : Nat) (v3 : Int32) (σ : SS), p_X8_runAll_46 n v3 σ = some res → ∀ (H : Heap) (locs : List Loc) (ls : Array Slot), va_P D vwCl (wM ad cI cJ cZ σ) H → va_S (aM ad) s.heap H locs → lv_has ls 4 [(0, .ref (ad 0)), (3, .int v3)] → W p l e R s m args below meth c H locs 0 0 (MQ below (va_Qv (fun (u : SS) => u = res) (fun u t => va_P D vwCl (wM ad cI cJ cZ u) t.heap) (aM ad)) args s 0 0 (aM ad)) (F0 m 46 ls []) := by
  obtain ⟨hx, hb, hr, hml, hown, hts, hlk⟩ := id hm
  intro n
  induction n with
  | zero =>
    intro _ _ hf
    cases hf
  | succ n hk46 =>
    intro v3 σ hf H locs ls hP hS hl
    rw [p_X8_runAll_46] at hf
    try dsimp only at hf
    refine lv_iload_n hx hb dX8_runAll_46 rfl (lv_at hl 1 rfl) ?_
    refine lv_bipush (v := 48) hx hb dX8_runAll_47 (by decide) ?_
    refine lv_icmp_ge (tgt := 65) hx hb dX8_runAll_49 (by decide) (fun c_49 => ?_) (fun c_49 => ?_)
    · rw [if_pos c_49] at hf
      refine lv_iconst (v := 0) hx hb dX8_runAll_65 (by decide) ?_
      refine lv_istore_n (lv' := [(3, .int 0), (0, .ref (ad 0))]) hx hb dX8_runAll_66 rfl hl (by decide) rfl (fun ls hl => ?_)
      exact w_X8_runAll_67 hm hR hK hD 100000 0 σ hf _ _ _ hP hS (lv_sub hl [1, 0] rfl)
    · rw [if_neg c_49] at hf
      refine lv_aload_n hx hb dX8_runAll_52 rfl (lv_at hl 0 rfl) ?_
      refine va_get (D := D) (ci := 7) (v := .ref (ad 32)) (C := RX8) (T := TX8) (N := 50) hx hb hts in_X8_runAll_X8 hown hK hP 0 (wM_0 _ _ _ _ _) rfl 44 (by decide) (hts (.fieldLink RX8 104 "CallGraphsModel" "ran" "[Z") (List.mem_of_getElem? (i := 9) rfl)) (fun _ h9 => h9) (fM_0_44 _ _) dX8_runAll_53 ?_
      refine lv_iload_n hx hb dX8_runAll_56 rfl (lv_at hl 1 rfl) ?_
      refine lv_iconst (v := 0) hx hb dX8_runAll_57 (by decide) ?_
      obtain ⟨h_58, hf⟩ := oi_e hf
      refine va_zast hx hb hK hP (hD _) hS 32 2 (wM_32 _ _ _ _ _) rfl h_58 dX8_runAll_58 (fun H locs hP _ hS => ?_)
      rw [nb_a (Or.inl rfl)] at hP
      have hP := wM_s32 hP
      obtain ⟨s_58, es_58, hf⟩ := os_e hf
      rw [← es_58] at hP
      refine lv_iinc (v := (v3 + 1)) (lv' := [(3, .int (v3 + 1)), (0, .ref (ad 0))]) hx hb dX8_runAll_59 hl (k := 1) rfl rfl (by decide) rfl (fun ls hl => ?_)
      refine lv_goto (tgt := 46) hx hb dX8_runAll_62 (by decide) ?_
      exact hk46 (v3 + 1) s_58 hf _ _ _ hP hS (lv_sub hl [1, 0] rfl)
def p_X8_runAll_0 (v1 : Int64) (σ : SS) : Option (SS) := oc (p_X8_freshen_0 σ) (fun r_1 => os (sL r_1 0 38 v1) (fun s_6 => os (sI s_6 0 39 0) (fun s_11 => os (sI s_11 0 40 0) (fun s_16 => os (sI s_16 0 41 0) (fun s_21 => os (sI s_21 0 42 (-1)) (fun s_26 => os (sI s_26 0 43 1) (fun s_31 => os (sI s_31 0 47 0) (fun s_36 => os (sI s_36 0 37 0) (fun s_41 => p_X8_runAll_46 100000 0 s_41)))))))))
set_option maxHeartbeats 4000000 in
set_option maxRecDepth 100000 in
theorem w_X8_runAll_0 {p : Program} {l : Launch} {e : Env} {R : Room} {s : State} {m : MethodId} {args : Array Value} {below : List Frame} {meth : Method} {c : Code} {D : va_G} {ad : Nat → Nat} {cI cJ cZ : ClassId} {res : SS} (hm : mx p s m args meth c cX8_runAll 4 none wsX8_runAll RX8) (hR : 8 ≤ R.frames ∧ 199 ≤ R.locals) (hK : va_K D vwCl (tyw cI cJ cZ) s) (hD : ∀ σ, va_D (aM ad) (wM ad cI cJ cZ σ)) (v1 : Int64) (σ : SS) (hf : p_X8_runAll_0 v1 σ = some res) (H : Heap) (locs : List Loc) (ls : Array Slot) (hP : va_P D vwCl (wM ad cI cJ cZ σ) H) (hS : va_S (aM ad) s.heap H locs) (hl : lv_has ls 4 [(0, .ref (ad 0)), (1, .long v1)]) : W p l e R s m args below meth c H locs 0 0 (MQ below (va_Qv (fun (u : SS) => u = res) (fun u t => va_P D vwCl (wM ad cI cJ cZ u) t.heap) (aM ad)) args s 0 0 (aM ad)) (F0 m 0 ls []) := by
  obtain ⟨hx, hb, hr, hml, hown, hts, hlk⟩ := id hm
  unfold p_X8_runAll_0 at hf
  refine lv_aload_n hx hb dX8_runAll_0 rfl (lv_at hl 0 rfl) ?_
  obtain ⟨r_1, hg_1, hf⟩ := oc_e hf
  refine mV_wv (wd := wM ad cI cJ cZ) (σ := σ) (As := []) (rest := []) ⟨hx, hb, hml, hown, hts⟩ hK hP hD hS (c_X8_freshen l D ad cI cJ cZ σ hg_1) (cwV 0 hts gX8_runAll_X8_freshen rfl rfl rfl hd_X8_freshen ⟨Nat.le_trans (Nat.le_of_ble_eq_true rfl) hR.1, Nat.le_trans (Nat.le_of_ble_eq_true rfl) hR.2⟩) rfl (wM_0 _ _ _ _ _) rfl hl.1 rfl (Nat.le_of_ble_eq_true rfl) dX8_runAll_1 (fun H locs hP hS => ?_)
  refine lv_aload_n hx hb dX8_runAll_4 rfl (lv_at hl 0 rfl) ?_
  refine lv_lload_n hx hb dX8_runAll_5 rfl (lv_at hl 1 rfl) ?_
  refine va_put (D := D) (ci := 7) (v := .long v1) (ty := .long) (C := RX8) (T := TX8) (N := 50) hx hb hts in_X8_runAll_X8 tyX8 tyX8_ok nmX8 hown hK hP (hD _) hS 0 (wM_0 _ _ _ _ _) rfl 38 (by decide) (hts (.fieldLink RX8 239 "CallGraphsModel" "x" "J") (List.mem_of_getElem? (i := 1) rfl)) (fun _ h9 => h9) rfl (tyX8_ok 38 (by decide)) rfl rfl (Nat.le_of_ble_eq_true rfl) dX8_runAll_6 (fun H locs hP _ hS => ?_)
  have hP := wM_p0_38 hP
  obtain ⟨s_6, es_6, hf⟩ := os_e hf
  rw [← es_6] at hP
  refine lv_aload_n hx hb dX8_runAll_9 rfl (lv_at hl 0 rfl) ?_
  refine lv_iconst (v := 0) hx hb dX8_runAll_10 (by decide) ?_
  refine va_put (D := D) (ci := 7) (v := .int 0) (ty := .int) (C := RX8) (T := TX8) (N := 50) hx hb hts in_X8_runAll_X8 tyX8 tyX8_ok nmX8 hown hK hP (hD _) hS 0 (wM_0 _ _ _ _ _) rfl 39 (by decide) (hts (.fieldLink RX8 256 "CallGraphsModel" "steps" "I") (List.mem_of_getElem? (i := 2) rfl)) (fun _ h9 => h9) rfl (tyX8_ok 39 (by decide)) rfl rfl (Nat.le_of_ble_eq_true rfl) dX8_runAll_11 (fun H locs hP _ hS => ?_)
  have hP := wM_p0_39 hP
  obtain ⟨s_11, es_11, hf⟩ := os_e hf
  rw [← es_11] at hP
  refine lv_aload_n hx hb dX8_runAll_14 rfl (lv_at hl 0 rfl) ?_
  refine lv_iconst (v := 0) hx hb dX8_runAll_15 (by decide) ?_
  refine va_put (D := D) (ci := 7) (v := .int 0) (ty := .int) (C := RX8) (T := TX8) (N := 50) hx hb hts in_X8_runAll_X8 tyX8 tyX8_ok nmX8 hown hK hP (hD _) hS 0 (wM_0 _ _ _ _ _) rfl 40 (by decide) (hts (.fieldLink RX8 253 "CallGraphsModel" "running" "I") (List.mem_of_getElem? (i := 3) rfl)) (fun _ h9 => h9) rfl (tyX8_ok 40 (by decide)) rfl rfl (Nat.le_of_ble_eq_true rfl) dX8_runAll_16 (fun H locs hP _ hS => ?_)
  have hP := wM_p0_40 hP
  obtain ⟨s_16, es_16, hf⟩ := os_e hf
  rw [← es_16] at hP
  refine lv_aload_n hx hb dX8_runAll_19 rfl (lv_at hl 0 rfl) ?_
  refine lv_iconst (v := 0) hx hb dX8_runAll_20 (by decide) ?_
  refine va_put (D := D) (ci := 7) (v := .int 0) (ty := .int) (C := RX8) (T := TX8) (N := 50) hx hb hts in_X8_runAll_X8 tyX8 tyX8_ok nmX8 hown hK hP (hD _) hS 0 (wM_0 _ _ _ _ _) rfl 41 (by decide) (hts (.fieldLink RX8 259 "CallGraphsModel" "leftOut" "I") (List.mem_of_getElem? (i := 4) rfl)) (fun _ h9 => h9) rfl (tyX8_ok 41 (by decide)) rfl rfl (Nat.le_of_ble_eq_true rfl) dX8_runAll_21 (fun H locs hP _ hS => ?_)
  have hP := wM_p0_41 hP
  obtain ⟨s_21, es_21, hf⟩ := os_e hf
  rw [← es_21] at hP
  refine lv_aload_n hx hb dX8_runAll_24 rfl (lv_at hl 0 rfl) ?_
  refine lv_iconst (v := (-1)) hx hb dX8_runAll_25 (by decide) ?_
  refine va_put (D := D) (ci := 7) (v := .int (-1)) (ty := .int) (C := RX8) (T := TX8) (N := 50) hx hb hts in_X8_runAll_X8 tyX8 tyX8_ok nmX8 hown hK hP (hD _) hS 0 (wM_0 _ _ _ _ _) rfl 42 (by decide) (hts (.fieldLink RX8 262 "CallGraphsModel" "latest" "I") (List.mem_of_getElem? (i := 5) rfl)) (fun _ h9 => h9) rfl (tyX8_ok 42 (by decide)) rfl rfl (Nat.le_of_ble_eq_true rfl) dX8_runAll_26 (fun H locs hP _ hS => ?_)
  have hP := wM_p0_42 hP
  obtain ⟨s_26, es_26, hf⟩ := os_e hf
  rw [← es_26] at hP
  refine lv_aload_n hx hb dX8_runAll_29 rfl (lv_at hl 0 rfl) ?_
  refine lv_iconst (v := 1) hx hb dX8_runAll_30 (by decide) ?_
  refine va_put (D := D) (ci := 7) (v := .int 1) (ty := .boolean) (C := RX8) (T := TX8) (N := 50) hx hb hts in_X8_runAll_X8 tyX8 tyX8_ok nmX8 hown hK hP (hD _) hS 0 (wM_0 _ _ _ _ _) rfl 43 (by decide) (hts (.fieldLink RX8 250 "CallGraphsModel" "isRight" "Z") (List.mem_of_getElem? (i := 6) rfl)) (fun _ h9 => h9) rfl (tyX8_ok 43 (by decide)) (nb_n (Or.inr rfl)) (nb_f (Or.inr rfl)) (Nat.le_of_ble_eq_true rfl) dX8_runAll_31 (fun H locs hP _ hS => ?_)
  have hP := wM_p0_43 hP
  obtain ⟨s_31, es_31, hf⟩ := os_e hf
  rw [← es_31] at hP
  refine lv_aload_n hx hb dX8_runAll_34 rfl (lv_at hl 0 rfl) ?_
  refine lv_iconst (v := 0) hx hb dX8_runAll_35 (by decide) ?_
  refine va_put (D := D) (ci := 7) (v := .int 0) (ty := .int) (C := RX8) (T := TX8) (N := 50) hx hb hts in_X8_runAll_X8 tyX8 tyX8_ok nmX8 hown hK hP (hD _) hS 0 (wM_0 _ _ _ _ _) rfl 47 (by decide) (hts (.fieldLink RX8 268 "CallGraphsModel" "pools" "I") (List.mem_of_getElem? (i := 7) rfl)) (fun _ h9 => h9) rfl (tyX8_ok 47 (by decide)) rfl rfl (Nat.le_of_ble_eq_true rfl) dX8_runAll_36 (fun H locs hP _ hS => ?_)
  have hP := wM_p0_47 hP
  obtain ⟨s_36, es_36, hf⟩ := os_e hf
  rw [← es_36] at hP
  refine lv_aload_n hx hb dX8_runAll_39 rfl (lv_at hl 0 rfl) ?_
  refine lv_iconst (v := 0) hx hb dX8_runAll_40 (by decide) ?_
  refine va_put (D := D) (ci := 7) (v := .int 0) (ty := .int) (C := RX8) (T := TX8) (N := 50) hx hb hts in_X8_runAll_X8 tyX8 tyX8_ok nmX8 hown hK hP (hD _) hS 0 (wM_0 _ _ _ _ _) rfl 37 (by decide) (hts (.fieldLink RX8 247 "CallGraphsModel" "deep" "I") (List.mem_of_getElem? (i := 8) rfl)) (fun _ h9 => h9) rfl (tyX8_ok 37 (by decide)) rfl rfl (Nat.le_of_ble_eq_true rfl) dX8_runAll_41 (fun H locs hP _ hS => ?_)
  have hP := wM_p0_37 hP
  obtain ⟨s_41, es_41, hf⟩ := os_e hf
  rw [← es_41] at hP
  refine lv_iconst (v := 0) hx hb dX8_runAll_44 (by decide) ?_
  refine lv_istore_n (lv' := [(3, .int 0), (0, .ref (ad 0)), (1, .long v1)]) hx hb dX8_runAll_45 rfl hl (by decide) rfl (fun ls hl => ?_)
  exact w_X8_runAll_46 hm hR hK hD 100000 0 s_41 hf _ _ _ hP hS (lv_sub hl [1, 0] rfl)
theorem hd_X8_runAll : yX8_runAll.cls = RX8 ∧ yX8_runAll.cls ≠ "java/lang/invoke/MethodHandle" ∧ yX8_runAll.cls ≠ "java/lang/invoke/VarHandle" ∧ (parseMethodDescriptor yX8_runAll.desc).map (fun d => d.parameters.length) = some 1 := by decide +kernel
set_option maxHeartbeats 4000000 in
set_option maxRecDepth 100000 in
theorem c_X8_runAll (l : Launch) (D : va_G) (ad : Nat → Nat) (cI cJ cZ : ClassId) (σ : SS) (v1 : Int64) {res : SS} (hf : p_X8_runAll_0 v1 σ = some res) : Met l yX8_runAll wsX8_runAll ({ frames := 8, cells := 0, slots := 0, locals := 199 } : Room) (PW D (tyw cI cJ cZ) (wM ad cI cJ cZ σ) [.ref (ad 0), .long v1]) (va_Qv (fun (u : SS) => u = res) (fun u t => va_P D vwCl (wM ad cI cJ cZ u) t.heap) (aM ad)) 0 0 (aM ad) := by
  refine Met.ofW (cc := cX8_runAll) (maxL := 4) (ret := none) (by decide) rfl ?_
  intro p e s m args below meth c s₁ B hml hv
  obtain ⟨rfl, hP, hK, hD0⟩ := hv
  have hD : ∀ σ, va_D (aM ad) (wM ad cI cJ cZ σ) := fun σ => wd_D hD0 (wM_map _ _ _ _ _) (wM_map _ _ _ _ _)
  have hm : mx p s m _ meth c cX8_runAll 4 none wsX8_runAll RX8 := ⟨B.exec, B.bytes, B.returns, hml, findClass_of_methodNamed B.named, atoms_spec (ws := wsX8_runAll) B.pre, B.notSynchronized⟩
  have hl := lv_entry ([.ref (ad 0), .long v1]) (n := 4) (Nat.le_of_ble_eq_true rfl)
  rw [lg_entry_eq]
  generalize (lg_sl ([.ref (ad 0), .long v1]) ++ List.replicate (4 - (lg_sl ([.ref (ad 0), .long v1])).length) Slot.unset).toArray = ls at hl ⊢
  exact w_X8_runAll_0 hm ⟨Nat.le_refl _, Nat.le_refl _⟩ hK hD v1 σ hf _ _ _ hP va_S.rf hl
/-! CallGraphsModel.run(JI)I -/
theorem in_X8_run_X8 : ∀ w ∈ u_ws RX8 TX8 50, w ∈ wsX8_run := fun w h => List.mem_cons_of_mem _ (List.mem_append_right _ h)
def p_X8_run_49 (k23 : Int32 → Int32 → Int32 → SS → Option (Int32 × SS)) (v3 : Int32) (v5 : Int32) (t0 : Int32) (t1 : Int32) (σ : SS) : Option (Int32 × SS) := k23 v3 (t1 + t0) (v5 + 1) σ
set_option maxHeartbeats 4000000 in
set_option maxRecDepth 100000 in
theorem w_X8_run_49 {p : Program} {l : Launch} {e : Env} {R : Room} {s : State} {m : MethodId} {args : Array Value} {below : List Frame} {meth : Method} {c : Code} {D : va_G} {ad : Nat → Nat} {cI cJ cZ : ClassId} {res : Int32 × SS} (hm : mx p s m args meth c cX8_run 7 (some .int) wsX8_run RX8) (hR : 9 ≤ R.frames ∧ 222 ≤ R.locals) (hK : va_K D vwCl (tyw cI cJ cZ) s) (hD : ∀ σ, va_D (aM ad) (wM ad cI cJ cZ σ)) (k23 : Int32 → Int32 → Int32 → SS → Option (Int32 × SS)) (hk23 : ∀ (v3 : Int32) (v4 : Int32) (v5 : Int32) (σ : SS), k23 v3 v4 v5 σ = some res → ∀ (H : Heap) (locs : List Loc) (ls : Array Slot), va_P D vwCl (wM ad cI cJ cZ σ) H → va_S (aM ad) s.heap H locs → lv_has ls 7 [(0, .ref (ad 0)), (3, .int v3), (4, .int v4), (5, .int v5)] → W p l e R s m args below meth c H locs 0 0 (MQ below (va_Qi (fun (r : Int32) (u : SS) => (r, u) = res) (fun u t => va_P D vwCl (wM ad cI cJ cZ u) t.heap) (aM ad)) args s 0 0 (aM ad)) (F0 m 23 ls [])) (v3 : Int32) (v5 : Int32) (t0 : Int32) (t1 : Int32) (σ : SS) (hf : p_X8_run_49 k23 v3 v5 t0 t1 σ = some res) (H : Heap) (locs : List Loc) (ls : Array Slot) (hP : va_P D vwCl (wM ad cI cJ cZ σ) H) (hS : va_S (aM ad) s.heap H locs) (hl : lv_has ls 7 [(0, .ref (ad 0)), (3, .int v3), (5, .int v5)]) : W p l e R s m args below meth c H locs 0 0 (MQ below (va_Qi (fun (r : Int32) (u : SS) => (r, u) = res) (fun u t => va_P D vwCl (wM ad cI cJ cZ u) t.heap) (aM ad)) args s 0 0 (aM ad)) (F0 m 49 ls [.int t0, .int t1]) := by
  obtain ⟨hx, hb, hr, hml, hown, hts, hlk⟩ := id hm
  unfold p_X8_run_49 at hf
  refine lv_iadd hx hb dX8_run_49 ?_
  refine lv_istore (lv' := [(4, .int (t1 + t0)), (0, .ref (ad 0)), (3, .int v3), (5, .int v5)]) hx hb dX8_run_50 hl (by decide) rfl (fun ls hl => ?_)
  refine lv_iinc (v := (v5 + 1)) (lv' := [(5, .int (v5 + 1)), (4, .int (t1 + t0)), (0, .ref (ad 0)), (3, .int v3)]) hx hb dX8_run_52 hl (k := 3) rfl rfl (by decide) rfl (fun ls hl => ?_)
  refine lv_goto (tgt := 23) hx hb dX8_run_55 (by decide) ?_
  exact hk23 v3 (t1 + t0) (v5 + 1) σ hf _ _ _ hP hS (lv_sub hl [2, 3, 1, 0] rfl)
def p_X8_run_90 (k64 : Int32 → Int32 → Int32 → Int32 → SS → Option (Int32 × SS)) (v3 : Int32) (v4 : Int32) (v6 : Int32) (t0 : Int32) (t1 : Int32) (σ : SS) : Option (Int32 × SS) := k64 v3 v4 (t1 + t0) (v6 + 1) σ
set_option maxHeartbeats 4000000 in
set_option maxRecDepth 100000 in
theorem w_X8_run_90 {p : Program} {l : Launch} {e : Env} {R : Room} {s : State} {m : MethodId} {args : Array Value} {below : List Frame} {meth : Method} {c : Code} {D : va_G} {ad : Nat → Nat} {cI cJ cZ : ClassId} {res : Int32 × SS} (hm : mx p s m args meth c cX8_run 7 (some .int) wsX8_run RX8) (hR : 9 ≤ R.frames ∧ 222 ≤ R.locals) (hK : va_K D vwCl (tyw cI cJ cZ) s) (hD : ∀ σ, va_D (aM ad) (wM ad cI cJ cZ σ)) (k64 : Int32 → Int32 → Int32 → Int32 → SS → Option (Int32 × SS)) (hk64 : ∀ (v3 : Int32) (v4 : Int32) (v5 : Int32) (v6 : Int32) (σ : SS), k64 v3 v4 v5 v6 σ = some res → ∀ (H : Heap) (locs : List Loc) (ls : Array Slot), va_P D vwCl (wM ad cI cJ cZ σ) H → va_S (aM ad) s.heap H locs → lv_has ls 7 [(0, .ref (ad 0)), (3, .int v3), (4, .int v4), (5, .int v5), (6, .int v6)] → W p l e R s m args below meth c H locs 0 0 (MQ below (va_Qi (fun (r : Int32) (u : SS) => (r, u) = res) (fun u t => va_P D vwCl (wM ad cI cJ cZ u) t.heap) (aM ad)) args s 0 0 (aM ad)) (F0 m 64 ls [])) (v3 : Int32) (v4 : Int32) (v6 : Int32) (t0 : Int32) (t1 : Int32) (σ : SS) (hf : p_X8_run_90 k64 v3 v4 v6 t0 t1 σ = some res) (H : Heap) (locs : List Loc) (ls : Array Slot) (hP : va_P D vwCl (wM ad cI cJ cZ σ) H) (hS : va_S (aM ad) s.heap H locs) (hl : lv_has ls 7 [(0, .ref (ad 0)), (3, .int v3), (4, .int v4), (6, .int v6)]) : W p l e R s m args below meth c H locs 0 0 (MQ below (va_Qi (fun (r : Int32) (u : SS) => (r, u) = res) (fun u t => va_P D vwCl (wM ad cI cJ cZ u) t.heap) (aM ad)) args s 0 0 (aM ad)) (F0 m 90 ls [.int t0, .int t1]) := by
  obtain ⟨hx, hb, hr, hml, hown, hts, hlk⟩ := id hm
  unfold p_X8_run_90 at hf
  refine lv_iadd hx hb dX8_run_90 ?_
  refine lv_istore (lv' := [(5, .int (t1 + t0)), (0, .ref (ad 0)), (3, .int v3), (4, .int v4), (6, .int v6)]) hx hb dX8_run_91 hl (by decide) rfl (fun ls hl => ?_)
  refine lv_iinc (v := (v6 + 1)) (lv' := [(6, .int (v6 + 1)), (5, .int (t1 + t0)), (0, .ref (ad 0)), (3, .int v3), (4, .int v4)]) hx hb dX8_run_93 hl (k := 4) rfl rfl (by decide) rfl (fun ls hl => ?_)
  refine lv_goto (tgt := 64) hx hb dX8_run_96 (by decide) ?_
  exact hk64 v3 v4 (t1 + t0) (v6 + 1) σ hf _ _ _ hP hS (lv_sub hl [2, 3, 4, 1, 0] rfl)
def p_X8_run_158 (t0 : Int32) (σ : SS) : Option (Int32 × SS) := some (t0, σ)
set_option maxHeartbeats 4000000 in
set_option maxRecDepth 100000 in
theorem w_X8_run_158 {p : Program} {l : Launch} {e : Env} {R : Room} {s : State} {m : MethodId} {args : Array Value} {below : List Frame} {meth : Method} {c : Code} {D : va_G} {ad : Nat → Nat} {cI cJ cZ : ClassId} {res : Int32 × SS} (hm : mx p s m args meth c cX8_run 7 (some .int) wsX8_run RX8) (hR : 9 ≤ R.frames ∧ 222 ≤ R.locals) (hK : va_K D vwCl (tyw cI cJ cZ) s) (hD : ∀ σ, va_D (aM ad) (wM ad cI cJ cZ σ)) (t0 : Int32) (σ : SS) (hf : p_X8_run_158 t0 σ = some res) (H : Heap) (locs : List Loc) (ls : Array Slot) (hP : va_P D vwCl (wM ad cI cJ cZ σ) H) (hS : va_S (aM ad) s.heap H locs) (hl : lv_has ls 7 []) : W p l e R s m args below meth c H locs 0 0 (MQ below (va_Qi (fun (r : Int32) (u : SS) => (r, u) = res) (fun u t => va_P D vwCl (wM ad cI cJ cZ u) t.heap) (aM ad)) args s 0 0 (aM ad)) (F0 m 158 ls [.int t0]) := by
  obtain ⟨hx, hb, hr, hml, hown, hts, hlk⟩ := id hm
  unfold p_X8_run_158 at hf
  exact rt_i (wd := wM ad cI cJ cZ) hx hb hr hlk (Option.some.inj hf) hP hS dX8_run_158
def p_X8_run_64 : Nat → Int32 → Int32 → Int32 → Int32 → SS → Option (Int32 × SS)
  | 0, _, _, _, _, _ => none
  | n + 1, v3, v4, v5, v6, σ => let k64 := p_X8_run_64 n; if (σ.1 0 0) ≤ v6 then if v3 = 0 then p_X8_run_158 (σ.1 0 39) σ else if v3 = 1 then p_X8_run_158 v4 σ else if v3 = 2 then p_X8_run_158 (σ.1 0 47) σ else if v3 = 3 then p_X8_run_158 v5 σ else if v3 = 4 then p_X8_run_158 (σ.1 0 41) σ else p_X8_run_158 (σ.1 0 42) σ else oi v6 16 (if (σ.1 33 v6.toNatClampNeg) = 0 then p_X8_run_90 k64 v3 v4 v6 0 v5 σ else p_X8_run_90 k64 v3 v4 v6 1 v5 σ)
set_option maxHeartbeats 4000000 in
set_option maxRecDepth 100000 in
theorem w_X8_run_64 {p : Program} {l : Launch} {e : Env} {R : Room} {s : State} {m : MethodId} {args : Array Value} {below : List Frame} {meth : Method} {c : Code} {D : va_G} {ad : Nat → Nat} {cI cJ cZ : ClassId} {res : Int32 × SS} (hm : mx p s m args meth c cX8_run 7 (some .int) wsX8_run RX8) (hR : 9 ≤ R.frames ∧ 222 ≤ R.locals) (hK : va_K D vwCl (tyw cI cJ cZ) s) (hD : ∀ σ, va_D (aM ad) (wM ad cI cJ cZ σ)) : ∀ (n : Nat) (v3 : Int32) (v4 : Int32) (v5 : Int32) (v6 : Int32) (σ : SS), p_X8_run_64 n v3 v4 v5 v6 σ = some res → ∀ (H : Heap) (locs : List Loc) (ls : Array Slot), va_P D vwCl (wM ad cI cJ cZ σ) H → va_S (aM ad) s.heap H locs → lv_has ls 7 [(0, .ref (ad 0)), (3, .int v3), (4, .int v4), (5, .int v5), (6, .int v6)] → W p l e R s m args below meth c H locs 0 0 (MQ below (va_Qi (fun (r : Int32) (u : SS) => (r, u) = res) (fun u t => va_P D vwCl (wM ad cI cJ cZ u) t.heap) (aM ad)) args s 0 0 (aM ad)) (F0 m 64 ls []) := by
  obtain ⟨hx, hb, hr, hml, hown, hts, hlk⟩ := id hm
  intro n
  induction n with
  | zero =>
    intro _ _ _ _ _ hf
    cases hf
  | succ n hk64 =>
    intro v3 v4 v5 v6 σ hf H locs ls hP hS hl
    rw [p_X8_run_64] at hf
    try dsimp only at hf
    refine lv_iload hx hb dX8_run_64 (lv_at hl 4 rfl) ?_
    refine lv_aload_n hx hb dX8_run_66 rfl (lv_at hl 0 rfl) ?_
    refine va_get (D := D) (ci := 7) (v := .int (σ.1 0 0)) (C := RX8) (T := TX8) (N := 50) hx hb hts in_X8_run_X8 hown hK hP 0 (wM_0 _ _ _ _ _) rfl 0 (by decide) (hts (.fieldLink RX8 123 "CallGraphsModel" "types" "I") (List.mem_of_getElem? (i := 3) rfl)) (fun _ h9 => h9) (fM_0_0 _ _) dX8_run_67 ?_
    refine lv_icmp_ge (tgt := 99) hx hb dX8_run_70 (by decide) (fun c_70 => ?_) (fun c_70 => ?_)
    · rw [if_pos c_70] at hf
      refine lv_iload_n hx hb dX8_run_99 rfl (lv_at hl 1 rfl) ?_
      refine lv_if_ne (tgt := 110) hx hb dX8_run_100 (by decide) (fun c_100 => ?_) (fun c_100 => ?_)
      · rw [if_neg c_100] at hf
        refine lv_iload_n hx hb dX8_run_110 rfl (lv_at hl 1 rfl) ?_
        refine lv_iconst (v := 1) hx hb dX8_run_111 (by decide) ?_
        refine lv_icmp_ne (tgt := 120) hx hb dX8_run_112 (by decide) (fun c_112 => ?_) (fun c_112 => ?_)
        · rw [if_neg c_112] at hf
          refine lv_iload_n hx hb dX8_run_120 rfl (lv_at hl 1 rfl) ?_
          refine lv_iconst (v := 2) hx hb dX8_run_121 (by decide) ?_
          refine lv_icmp_ne (tgt := 132) hx hb dX8_run_122 (by decide) (fun c_122 => ?_) (fun c_122 => ?_)
          · rw [if_neg c_122] at hf
            refine lv_iload_n hx hb dX8_run_132 rfl (lv_at hl 1 rfl) ?_
            refine lv_iconst (v := 3) hx hb dX8_run_133 (by decide) ?_
            refine lv_icmp_ne (tgt := 142) hx hb dX8_run_134 (by decide) (fun c_134 => ?_) (fun c_134 => ?_)
            · rw [if_neg c_134] at hf
              refine lv_iload_n hx hb dX8_run_142 rfl (lv_at hl 1 rfl) ?_
              refine lv_iconst (v := 4) hx hb dX8_run_143 (by decide) ?_
              refine lv_icmp_ne (tgt := 154) hx hb dX8_run_144 (by decide) (fun c_144 => ?_) (fun c_144 => ?_)
              · rw [if_neg c_144] at hf
                refine lv_aload_n hx hb dX8_run_154 rfl (lv_at hl 0 rfl) ?_
                refine va_get (D := D) (ci := 7) (v := .int (σ.1 0 42)) (C := RX8) (T := TX8) (N := 50) hx hb hts in_X8_run_X8 hown hK hP 0 (wM_0 _ _ _ _ _) rfl 42 (by decide) (hts (.fieldLink RX8 262 "CallGraphsModel" "latest" "I") (List.mem_of_getElem? (i := 8) rfl)) (fun _ h9 => h9) (fM_0_42 _ _) dX8_run_155 ?_
                exact w_X8_run_158 hm hR hK hD (σ.1 0 42) σ hf _ _ _ hP hS (lv_sub hl [] rfl)
              · rw [if_pos c_144] at hf
                refine lv_aload_n hx hb dX8_run_147 rfl (lv_at hl 0 rfl) ?_
                refine va_get (D := D) (ci := 7) (v := .int (σ.1 0 41)) (C := RX8) (T := TX8) (N := 50) hx hb hts in_X8_run_X8 hown hK hP 0 (wM_0 _ _ _ _ _) rfl 41 (by decide) (hts (.fieldLink RX8 259 "CallGraphsModel" "leftOut" "I") (List.mem_of_getElem? (i := 7) rfl)) (fun _ h9 => h9) (fM_0_41 _ _) dX8_run_148 ?_
                refine lv_goto (tgt := 158) hx hb dX8_run_151 (by decide) ?_
                exact w_X8_run_158 hm hR hK hD (σ.1 0 41) σ hf _ _ _ hP hS (lv_sub hl [] rfl)
            · rw [if_pos c_134] at hf
              refine lv_iload hx hb dX8_run_137 (lv_at hl 3 rfl) ?_
              refine lv_goto (tgt := 158) hx hb dX8_run_139 (by decide) ?_
              exact w_X8_run_158 hm hR hK hD v5 σ hf _ _ _ hP hS (lv_sub hl [] rfl)
          · rw [if_pos c_122] at hf
            refine lv_aload_n hx hb dX8_run_125 rfl (lv_at hl 0 rfl) ?_
            refine va_get (D := D) (ci := 7) (v := .int (σ.1 0 47)) (C := RX8) (T := TX8) (N := 50) hx hb hts in_X8_run_X8 hown hK hP 0 (wM_0 _ _ _ _ _) rfl 47 (by decide) (hts (.fieldLink RX8 268 "CallGraphsModel" "pools" "I") (List.mem_of_getElem? (i := 6) rfl)) (fun _ h9 => h9) (fM_0_47 _ _) dX8_run_126 ?_
            refine lv_goto (tgt := 158) hx hb dX8_run_129 (by decide) ?_
            exact w_X8_run_158 hm hR hK hD (σ.1 0 47) σ hf _ _ _ hP hS (lv_sub hl [] rfl)
        · rw [if_pos c_112] at hf
          refine lv_iload hx hb dX8_run_115 (lv_at hl 2 rfl) ?_
          refine lv_goto (tgt := 158) hx hb dX8_run_117 (by decide) ?_
          exact w_X8_run_158 hm hR hK hD v4 σ hf _ _ _ hP hS (lv_sub hl [] rfl)
      · rw [if_pos c_100] at hf
        refine lv_aload_n hx hb dX8_run_103 rfl (lv_at hl 0 rfl) ?_
        refine va_get (D := D) (ci := 7) (v := .int (σ.1 0 39)) (C := RX8) (T := TX8) (N := 50) hx hb hts in_X8_run_X8 hown hK hP 0 (wM_0 _ _ _ _ _) rfl 39 (by decide) (hts (.fieldLink RX8 256 "CallGraphsModel" "steps" "I") (List.mem_of_getElem? (i := 5) rfl)) (fun _ h9 => h9) (fM_0_39 _ _) dX8_run_104 ?_
        refine lv_goto (tgt := 158) hx hb dX8_run_107 (by decide) ?_
        exact w_X8_run_158 hm hR hK hD (σ.1 0 39) σ hf _ _ _ hP hS (lv_sub hl [] rfl)
    · rw [if_neg c_70] at hf
      refine lv_iload hx hb dX8_run_73 (lv_at hl 3 rfl) ?_
      refine lv_aload_n hx hb dX8_run_75 rfl (lv_at hl 0 rfl) ?_
      refine va_get (D := D) (ci := 7) (v := .ref (ad 33)) (C := RX8) (T := TX8) (N := 50) hx hb hts in_X8_run_X8 hown hK hP 0 (wM_0 _ _ _ _ _) rfl 45 (by decide) (hts (.fieldLink RX8 107 "CallGraphsModel" "begunNow" "[Z") (List.mem_of_getElem? (i := 4) rfl)) (fun _ h9 => h9) (fM_0_45 _ _) dX8_run_76 ?_
      refine lv_iload hx hb dX8_run_79 (lv_at hl 4 rfl) ?_
      obtain ⟨h_81, hf⟩ := oi_e hf
      refine va_zald hx hb hK hP 33 2 (wM_33 _ _ _ _ _) rfl h_81 dX8_run_81 ?_
      refine lv_if_eq (tgt := 89) hx hb dX8_run_82 (by decide) (fun c_82 => ?_) (fun c_82 => ?_)
      · rw [if_pos c_82] at hf
        refine lv_iconst (v := 0) hx hb dX8_run_89 (by decide) ?_
        exact w_X8_run_90 hm hR hK hD (p_X8_run_64 n) hk64 v3 v4 v6 0 v5 σ hf _ _ _ hP hS (lv_sub hl [0, 1, 2, 4] rfl)
      · rw [if_neg c_82] at hf
        refine lv_iconst (v := 1) hx hb dX8_run_85 (by decide) ?_
        refine lv_goto (tgt := 90) hx hb dX8_run_86 (by decide) ?_
        exact w_X8_run_90 hm hR hK hD (p_X8_run_64 n) hk64 v3 v4 v6 1 v5 σ hf _ _ _ hP hS (lv_sub hl [0, 1, 2, 4] rfl)
def p_X8_run_23 : Nat → Int32 → Int32 → Int32 → SS → Option (Int32 × SS)
  | 0, _, _, _, _ => none
  | n + 1, v3, v4, v5, σ => let k23 := p_X8_run_23 n; if (σ.1 0 5) ≤ v5 then p_X8_run_64 100000 v3 v4 0 0 σ else oi v5 48 (if (σ.1 32 v5.toNatClampNeg) = 0 then p_X8_run_49 k23 v3 v5 0 v4 σ else p_X8_run_49 k23 v3 v5 1 v4 σ)
set_option maxHeartbeats 4000000 in
set_option maxRecDepth 100000 in
theorem w_X8_run_23 {p : Program} {l : Launch} {e : Env} {R : Room} {s : State} {m : MethodId} {args : Array Value} {below : List Frame} {meth : Method} {c : Code} {D : va_G} {ad : Nat → Nat} {cI cJ cZ : ClassId} {res : Int32 × SS} (hm : mx p s m args meth c cX8_run 7 (some .int) wsX8_run RX8) (hR : 9 ≤ R.frames ∧ 222 ≤ R.locals) (hK : va_K D vwCl (tyw cI cJ cZ) s) (hD : ∀ σ, va_D (aM ad) (wM ad cI cJ cZ σ)) : ∀ (n : Nat) (v3 : Int32) (v4 : Int32) (v5 : Int32) (σ : SS), p_X8_run_23 n v3 v4 v5 σ = some res → ∀ (H : Heap) (locs : List Loc) (ls : Array Slot), va_P D vwCl (wM ad cI cJ cZ σ) H → va_S (aM ad) s.heap H locs → lv_has ls 7 [(0, .ref (ad 0)), (3, .int v3), (4, .int v4), (5, .int v5)] → W p l e R s m args below meth c H locs 0 0 (MQ below (va_Qi (fun (r : Int32) (u : SS) => (r, u) = res) (fun u t => va_P D vwCl (wM ad cI cJ cZ u) t.heap) (aM ad)) args s 0 0 (aM ad)) (F0 m 23 ls []) := by
  obtain ⟨hx, hb, hr, hml, hown, hts, hlk⟩ := id hm
  intro n
  induction n with
  | zero =>
    intro _ _ _ _ hf
    cases hf
  | succ n hk23 =>
    intro v3 v4 v5 σ hf H locs ls hP hS hl
    rw [p_X8_run_23] at hf
    try dsimp only at hf
    refine lv_iload hx hb dX8_run_23 (lv_at hl 3 rfl) ?_
    refine lv_aload_n hx hb dX8_run_25 rfl (lv_at hl 0 rfl) ?_
    refine va_get (D := D) (ci := 7) (v := .int (σ.1 0 5)) (C := RX8) (T := TX8) (N := 50) hx hb hts in_X8_run_X8 hown hK hP 0 (wM_0 _ _ _ _ _) rfl 5 (by decide) (hts (.fieldLink RX8 131 "CallGraphsModel" "members" "I") (List.mem_of_getElem? (i := 1) rfl)) (fun _ h9 => h9) (fM_0_5 _ _) dX8_run_26 ?_
    refine lv_icmp_ge (tgt := 58) hx hb dX8_run_29 (by decide) (fun c_29 => ?_) (fun c_29 => ?_)
    · rw [if_pos c_29] at hf
      refine lv_iconst (v := 0) hx hb dX8_run_58 (by decide) ?_
      refine lv_istore (lv' := [(5, .int 0), (0, .ref (ad 0)), (3, .int v3), (4, .int v4)]) hx hb dX8_run_59 hl (by decide) rfl (fun ls hl => ?_)
      refine lv_iconst (v := 0) hx hb dX8_run_61 (by decide) ?_
      refine lv_istore (lv' := [(6, .int 0), (5, .int 0), (0, .ref (ad 0)), (3, .int v3), (4, .int v4)]) hx hb dX8_run_62 hl (by decide) rfl (fun ls hl => ?_)
      exact w_X8_run_64 hm hR hK hD 100000 v3 v4 0 0 σ hf _ _ _ hP hS (lv_sub hl [2, 3, 4, 1, 0] rfl)
    · rw [if_neg c_29] at hf
      refine lv_iload hx hb dX8_run_32 (lv_at hl 2 rfl) ?_
      refine lv_aload_n hx hb dX8_run_34 rfl (lv_at hl 0 rfl) ?_
      refine va_get (D := D) (ci := 7) (v := .ref (ad 32)) (C := RX8) (T := TX8) (N := 50) hx hb hts in_X8_run_X8 hown hK hP 0 (wM_0 _ _ _ _ _) rfl 44 (by decide) (hts (.fieldLink RX8 104 "CallGraphsModel" "ran" "[Z") (List.mem_of_getElem? (i := 2) rfl)) (fun _ h9 => h9) (fM_0_44 _ _) dX8_run_35 ?_
      refine lv_iload hx hb dX8_run_38 (lv_at hl 3 rfl) ?_
      obtain ⟨h_40, hf⟩ := oi_e hf
      refine va_zald hx hb hK hP 32 2 (wM_32 _ _ _ _ _) rfl h_40 dX8_run_40 ?_
      refine lv_if_eq (tgt := 48) hx hb dX8_run_41 (by decide) (fun c_41 => ?_) (fun c_41 => ?_)
      · rw [if_pos c_41] at hf
        refine lv_iconst (v := 0) hx hb dX8_run_48 (by decide) ?_
        exact w_X8_run_49 hm hR hK hD (p_X8_run_23 n) hk23 v3 v5 0 v4 σ hf _ _ _ hP hS (lv_sub hl [0, 1, 3] rfl)
      · rw [if_neg c_41] at hf
        refine lv_iconst (v := 1) hx hb dX8_run_44 (by decide) ?_
        refine lv_goto (tgt := 49) hx hb dX8_run_45 (by decide) ?_
        exact w_X8_run_49 hm hR hK hD (p_X8_run_23 n) hk23 v3 v5 1 v4 σ hf _ _ _ hP hS (lv_sub hl [0, 1, 3] rfl)
def p_X8_run_0 (v1 : Int64) (v3 : Int32) (σ : SS) : Option (Int32 × SS) := oc (p_X8_in_0 v3 0 5) (fun r_3 => if r_3 = 0 then some ((-102), σ) else oc (p_X8_runAll_0 v1 σ) (fun r_14 => p_X8_run_23 100000 v3 0 0 r_14))
set_option maxHeartbeats 4000000 in
set_option maxRecDepth 100000 in
theorem w_X8_run_0 {p : Program} {l : Launch} {e : Env} {R : Room} {s : State} {m : MethodId} {args : Array Value} {below : List Frame} {meth : Method} {c : Code} {D : va_G} {ad : Nat → Nat} {cI cJ cZ : ClassId} {res : Int32 × SS} (hm : mx p s m args meth c cX8_run 7 (some .int) wsX8_run RX8) (hR : 9 ≤ R.frames ∧ 222 ≤ R.locals) (hK : va_K D vwCl (tyw cI cJ cZ) s) (hD : ∀ σ, va_D (aM ad) (wM ad cI cJ cZ σ)) (v1 : Int64) (v3 : Int32) (σ : SS) (hf : p_X8_run_0 v1 v3 σ = some res) (H : Heap) (locs : List Loc) (ls : Array Slot) (hP : va_P D vwCl (wM ad cI cJ cZ σ) H) (hS : va_S (aM ad) s.heap H locs) (hl : lv_has ls 7 [(0, .ref (ad 0)), (1, .long v1), (3, .int v3)]) : W p l e R s m args below meth c H locs 0 0 (MQ below (va_Qi (fun (r : Int32) (u : SS) => (r, u) = res) (fun u t => va_P D vwCl (wM ad cI cJ cZ u) t.heap) (aM ad)) args s 0 0 (aM ad)) (F0 m 0 ls []) := by
  obtain ⟨hx, hb, hr, hml, hown, hts, hlk⟩ := id hm
  unfold p_X8_run_0 at hf
  refine lv_iload_n hx hb dX8_run_0 rfl (lv_at hl 2 rfl) ?_
  refine lv_iconst (v := 0) hx hb dX8_run_1 (by decide) ?_
  refine lv_iconst (v := 5) hx hb dX8_run_2 (by decide) ?_
  obtain ⟨r_3, hg_3, hf⟩ := oc_e hf
  refine mS_i (D := D) (As := [.int v3, .int 0, .int 5]) (rest := []) ⟨hx, hb, hml, hown, hts⟩ hP hS (c_X8_in l v3 0 5 hg_3) (va_cwS 3 hts gX8_run_X8_in rfl rfl rfl hd_X8_in ⟨Nat.le_trans (Nat.le_of_ble_eq_true rfl) hR.1, Nat.le_trans (Nat.le_of_ble_eq_true rfl) hR.2⟩) rfl hl.1 rfl (Nat.le_of_ble_eq_true rfl) dX8_run_3 (fun H locs hP hS => ?_)
  refine lv_if_ne (tgt := 12) hx hb dX8_run_6 (by decide) (fun c_6 => ?_) (fun c_6 => ?_)
  · rw [if_neg c_6] at hf
    refine lv_aload_n hx hb dX8_run_12 rfl (lv_at hl 0 rfl) ?_
    refine lv_lload_n hx hb dX8_run_13 rfl (lv_at hl 1 rfl) ?_
    obtain ⟨r_14, hg_14, hf⟩ := oc_e hf
    refine mV_wv (wd := wM ad cI cJ cZ) (σ := σ) (As := [.long v1]) (rest := []) ⟨hx, hb, hml, hown, hts⟩ hK hP hD hS (c_X8_runAll l D ad cI cJ cZ σ v1 hg_14) (cwV 1 hts gX8_run_X8_runAll rfl rfl rfl hd_X8_runAll ⟨Nat.le_trans (Nat.le_of_ble_eq_true rfl) hR.1, Nat.le_trans (Nat.le_of_ble_eq_true rfl) hR.2⟩) rfl (wM_0 _ _ _ _ _) rfl hl.1 rfl (Nat.le_of_ble_eq_true rfl) dX8_run_14 (fun H locs hP hS => ?_)
    refine lv_iconst (v := 0) hx hb dX8_run_17 (by decide) ?_
    refine lv_istore (lv' := [(4, .int 0), (0, .ref (ad 0)), (1, .long v1), (3, .int v3)]) hx hb dX8_run_18 hl (by decide) rfl (fun ls hl => ?_)
    refine lv_iconst (v := 0) hx hb dX8_run_20 (by decide) ?_
    refine lv_istore (lv' := [(5, .int 0), (4, .int 0), (0, .ref (ad 0)), (1, .long v1), (3, .int v3)]) hx hb dX8_run_21 hl (by decide) rfl (fun ls hl => ?_)
    exact w_X8_run_23 hm hR hK hD 100000 v3 0 0 r_14 hf _ _ _ hP hS (lv_sub hl [2, 4, 1, 0] rfl)
  · rw [if_pos c_6] at hf
    refine lv_bipush (v := (-102)) hx hb dX8_run_9 (by decide) ?_
    exact rt_i (wd := wM ad cI cJ cZ) hx hb hr hlk (Option.some.inj hf) hP hS dX8_run_11
theorem hd_X8_run : yX8_run.cls = RX8 ∧ yX8_run.cls ≠ "java/lang/invoke/MethodHandle" ∧ yX8_run.cls ≠ "java/lang/invoke/VarHandle" ∧ (parseMethodDescriptor yX8_run.desc).map (fun d => d.parameters.length) = some 2 := by decide +kernel
set_option maxHeartbeats 4000000 in
set_option maxRecDepth 100000 in
theorem c_X8_run (l : Launch) (D : va_G) (ad : Nat → Nat) (cI cJ cZ : ClassId) (σ : SS) (v1 : Int64) (v3 : Int32) {res : Int32 × SS} (hf : p_X8_run_0 v1 v3 σ = some res) : Met l yX8_run wsX8_run ({ frames := 9, cells := 0, slots := 0, locals := 222 } : Room) (PW D (tyw cI cJ cZ) (wM ad cI cJ cZ σ) [.ref (ad 0), .long v1, .int v3]) (va_Qi (fun (r : Int32) (u : SS) => (r, u) = res) (fun u t => va_P D vwCl (wM ad cI cJ cZ u) t.heap) (aM ad)) 0 0 (aM ad) := by
  refine Met.ofW (cc := cX8_run) (maxL := 7) (ret := (some .int)) (by decide) rfl ?_
  intro p e s m args below meth c s₁ B hml hv
  obtain ⟨rfl, hP, hK, hD0⟩ := hv
  have hD : ∀ σ, va_D (aM ad) (wM ad cI cJ cZ σ) := fun σ => wd_D hD0 (wM_map _ _ _ _ _) (wM_map _ _ _ _ _)
  have hm : mx p s m _ meth c cX8_run 7 (some .int) wsX8_run RX8 := ⟨B.exec, B.bytes, B.returns, hml, findClass_of_methodNamed B.named, atoms_spec (ws := wsX8_run) B.pre, B.notSynchronized⟩
  have hl := lv_entry ([.ref (ad 0), .long v1, .int v3]) (n := 7) (Nat.le_of_ble_eq_true rfl)
  rw [lg_entry_eq]
  generalize (lg_sl ([.ref (ad 0), .long v1, .int v3]) ++ List.replicate (7 - (lg_sl ([.ref (ad 0), .long v1, .int v3])).length) Slot.unset).toArray = ls at hl ⊢
  exact w_X8_run_0 hm ⟨Nat.le_refl _, Nat.le_refl _⟩ hK hD v1 v3 σ hf _ _ _ hP va_S.rf hl
/-! CallGraphsModel.holds(J)Z -/
theorem in_X8_holds_X8 : ∀ w ∈ u_ws RX8 TX8 50, w ∈ wsX8_holds := fun w h => List.mem_cons_of_mem _ (List.mem_append_right _ h)
def p_X8_holds_0 (v1 : Int64) (σ : SS) : Option (Int32 × SS) := oc (p_X8_runAll_0 v1 σ) (fun r_2 => ob (r_2.1 0 43) (some ((r_2.1 0 43), r_2)))
set_option maxHeartbeats 4000000 in
set_option maxRecDepth 100000 in
theorem w_X8_holds_0 {p : Program} {l : Launch} {e : Env} {R : Room} {s : State} {m : MethodId} {args : Array Value} {below : List Frame} {meth : Method} {c : Code} {D : va_G} {ad : Nat → Nat} {cI cJ cZ : ClassId} {res : Int32 × SS} (hm : mx p s m args meth c cX8_holds 3 (some .boolean) wsX8_holds RX8) (hR : 9 ≤ R.frames ∧ 222 ≤ R.locals) (hK : va_K D vwCl (tyw cI cJ cZ) s) (hD : ∀ σ, va_D (aM ad) (wM ad cI cJ cZ σ)) (v1 : Int64) (σ : SS) (hf : p_X8_holds_0 v1 σ = some res) (H : Heap) (locs : List Loc) (ls : Array Slot) (hP : va_P D vwCl (wM ad cI cJ cZ σ) H) (hS : va_S (aM ad) s.heap H locs) (hl : lv_has ls 3 [(0, .ref (ad 0)), (1, .long v1)]) : W p l e R s m args below meth c H locs 0 0 (MQ below (va_Qi (fun (r : Int32) (u : SS) => (r, u) = res) (fun u t => va_P D vwCl (wM ad cI cJ cZ u) t.heap) (aM ad)) args s 0 0 (aM ad)) (F0 m 0 ls []) := by
  obtain ⟨hx, hb, hr, hml, hown, hts, hlk⟩ := id hm
  unfold p_X8_holds_0 at hf
  refine lv_aload_n hx hb dX8_holds_0 rfl (lv_at hl 0 rfl) ?_
  refine lv_lload_n hx hb dX8_holds_1 rfl (lv_at hl 1 rfl) ?_
  obtain ⟨r_2, hg_2, hf⟩ := oc_e hf
  refine mV_wv (wd := wM ad cI cJ cZ) (σ := σ) (As := [.long v1]) (rest := []) ⟨hx, hb, hml, hown, hts⟩ hK hP hD hS (c_X8_runAll l D ad cI cJ cZ σ v1 hg_2) (cwV 1 hts gX8_holds_X8_runAll rfl rfl rfl hd_X8_runAll ⟨Nat.le_trans (Nat.le_of_ble_eq_true rfl) hR.1, Nat.le_trans (Nat.le_of_ble_eq_true rfl) hR.2⟩) rfl (wM_0 _ _ _ _ _) rfl hl.1 rfl (Nat.le_of_ble_eq_true rfl) dX8_holds_2 (fun H locs hP hS => ?_)
  refine lv_aload_n hx hb dX8_holds_5 rfl (lv_at hl 0 rfl) ?_
  refine va_get (D := D) (ci := 7) (v := .int (r_2.1 0 43)) (C := RX8) (T := TX8) (N := 50) hx hb hts in_X8_holds_X8 hown hK hP 0 (wM_0 _ _ _ _ _) rfl 43 (by decide) (hts (.fieldLink RX8 250 "CallGraphsModel" "isRight" "Z") (List.mem_of_getElem? (i := 1) rfl)) (fun _ h9 => h9) (fM_0_43 _ _) dX8_holds_6 ?_
  obtain ⟨h_9, hf⟩ := ob_e hf
  exact rt_z (wd := wM ad cI cJ cZ) hx hb hr hlk h_9 (Option.some.inj hf) hP hS dX8_holds_9
theorem hd_X8_holds : yX8_holds.cls = RX8 ∧ yX8_holds.cls ≠ "java/lang/invoke/MethodHandle" ∧ yX8_holds.cls ≠ "java/lang/invoke/VarHandle" ∧ (parseMethodDescriptor yX8_holds.desc).map (fun d => d.parameters.length) = some 1 := by decide +kernel
set_option maxHeartbeats 4000000 in
set_option maxRecDepth 100000 in
theorem c_X8_holds (l : Launch) (D : va_G) (ad : Nat → Nat) (cI cJ cZ : ClassId) (σ : SS) (v1 : Int64) {res : Int32 × SS} (hf : p_X8_holds_0 v1 σ = some res) : Met l yX8_holds wsX8_holds ({ frames := 9, cells := 0, slots := 0, locals := 222 } : Room) (PW D (tyw cI cJ cZ) (wM ad cI cJ cZ σ) [.ref (ad 0), .long v1]) (va_Qi (fun (r : Int32) (u : SS) => (r, u) = res) (fun u t => va_P D vwCl (wM ad cI cJ cZ u) t.heap) (aM ad)) 0 0 (aM ad) := by
  refine Met.ofW (cc := cX8_holds) (maxL := 3) (ret := (some .boolean)) (by decide) rfl ?_
  intro p e s m args below meth c s₁ B hml hv
  obtain ⟨rfl, hP, hK, hD0⟩ := hv
  have hD : ∀ σ, va_D (aM ad) (wM ad cI cJ cZ σ) := fun σ => wd_D hD0 (wM_map _ _ _ _ _) (wM_map _ _ _ _ _)
  have hm : mx p s m _ meth c cX8_holds 3 (some .boolean) wsX8_holds RX8 := ⟨B.exec, B.bytes, B.returns, hml, findClass_of_methodNamed B.named, atoms_spec (ws := wsX8_holds) B.pre, B.notSynchronized⟩
  have hl := lv_entry ([.ref (ad 0), .long v1]) (n := 3) (Nat.le_of_ble_eq_true rfl)
  rw [lg_entry_eq]
  generalize (lg_sl ([.ref (ad 0), .long v1]) ++ List.replicate (3 - (lg_sl ([.ref (ad 0), .long v1])).length) Slot.unset).toArray = ls at hl ⊢
  exact w_X8_holds_0 hm ⟨Nat.le_refl _, Nat.le_refl _⟩ hK hD v1 σ hf _ _ _ hP va_S.rf hl
