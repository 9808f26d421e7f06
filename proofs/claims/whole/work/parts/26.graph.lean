/-! CallGraphs$Graph.forget()V -/
theorem in_X3_forget_X3 : ∀ w ∈ u_ws RX3 TX3 13, w ∈ wsX3_forget := fun w h => List.mem_cons_of_mem _ (List.mem_append_right _ h)
def p_X3_forget_0 (σ : SS) : Option (SS) := os (sI σ 5 12 0) (fun s_2 => some s_2)
set_option maxHeartbeats 4000000 in
set_option maxRecDepth 100000 in
theorem w_X3_forget_0 {p : Program} {l : Launch} {e : Env} {R : Room} {s : State} {m : MethodId} {args : Array Value} {below : List Frame} {meth : Method} {c : Code} {D : va_G} {ad : Nat → Nat} {cI cJ cZ : ClassId} {res : SS} (hm : mx p s m args meth c cX3_forget 1 none wsX3_forget RX3) (hR : 0 ≤ R.frames ∧ 0 ≤ R.locals) (hK : va_K D vwCl (tyw cI cJ cZ) s) (hD : ∀ σ, va_D (aC ad) (wC ad cI cJ cZ σ)) (σ : SS) (hf : p_X3_forget_0 σ = some res) (H : Heap) (locs : List Loc) (ls : Array Slot) (hP : va_P D vwCl (wC ad cI cJ cZ σ) H) (hS : va_S (aC ad) s.heap H locs) (hl : lv_has ls 1 [(0, .ref (ad 5))]) : W p l e R s m args below meth c H locs 0 0 (MQ below (va_Qv (fun (u : SS) => u = res) (fun u t => va_P D vwCl (wC ad cI cJ cZ u) t.heap) (aC ad)) args s 0 0 (aC ad)) (F0 m 0 ls []) := by
  obtain ⟨hx, hb, hr, hml, hown, hts, hlk⟩ := id hm
  unfold p_X3_forget_0 at hf
  refine lv_aload_n hx hb dX3_forget_0 rfl (lv_at hl 0 rfl) ?_
  refine lv_iconst (v := 0) hx hb dX3_forget_1 (by decide) ?_
  refine va_put (D := D) (ci := 2) (v := .int 0) (ty := .boolean) (C := RX3) (T := TX3) (N := 13) hx hb hts in_X3_forget_X3 tyX3 tyX3_ok nmX3 hown hK hP (hD _) hS 5 (wC_5 _ _ _ _ _) rfl 12 (by decide) (hts (.fieldLink RX3 43 "CallGraphs$Graph" "fresh" "Z") (List.mem_of_getElem? (i := 1) rfl)) (fun _ h9 => h9) rfl (tyX3_ok 12 (by decide)) (nb_n (Or.inl rfl)) (nb_f (Or.inl rfl)) (Nat.le_of_ble_eq_true rfl) dX3_forget_2 (fun H locs hP _ hS => ?_)
  have hP := wC_p5_12 hP
  obtain ⟨s_2, es_2, hf⟩ := os_e hf
  rw [← es_2] at hP
  exact rt_v (wd := wC ad cI cJ cZ) hx hb hr hlk (Option.some.inj hf) hP hS dX3_forget_5
theorem hd_X3_forget : yX3_forget.cls = RX3 ∧ yX3_forget.cls ≠ "java/lang/invoke/MethodHandle" ∧ yX3_forget.cls ≠ "java/lang/invoke/VarHandle" ∧ (parseMethodDescriptor yX3_forget.desc).map (fun d => d.parameters.length) = some 0 := by decide +kernel
set_option maxHeartbeats 4000000 in
set_option maxRecDepth 100000 in
theorem c_X3_forget (l : Launch) (D : va_G) (ad : Nat → Nat) (cI cJ cZ : ClassId) (σ : SS) {res : SS} (hf : p_X3_forget_0 σ = some res) : Met l yX3_forget wsX3_forget ({ frames := 0, cells := 0, slots := 0, locals := 0 } : Room) (PW D (tyw cI cJ cZ) (wC ad cI cJ cZ σ) [.ref (ad 5)]) (va_Qv (fun (u : SS) => u = res) (fun u t => va_P D vwCl (wC ad cI cJ cZ u) t.heap) (aC ad)) 0 0 (aC ad) := by
  refine Met.ofW (cc := cX3_forget) (maxL := 1) (ret := none) (by decide) rfl ?_
  intro p e s m args below meth c s₁ B hml hv
  obtain ⟨rfl, hP, hK, hD0⟩ := hv
  have hD : ∀ σ, va_D (aC ad) (wC ad cI cJ cZ σ) := fun σ => wd_D hD0 (wC_map _ _ _ _ _) (wC_map _ _ _ _ _)
  have hm : mx p s m _ meth c cX3_forget 1 none wsX3_forget RX3 := ⟨B.exec, B.bytes, B.returns, hml, findClass_of_methodNamed B.named, atoms_spec (ws := wsX3_forget) B.pre, B.notSynchronized⟩
  have hl := lv_entry ([.ref (ad 5)]) (n := 1) (Nat.le_of_ble_eq_true rfl)
  rw [lg_entry_eq]
  generalize (lg_sl ([.ref (ad 5)]) ++ List.replicate (1 - (lg_sl ([.ref (ad 5)])).length) Slot.unset).toArray = ls at hl ⊢
  exact w_X3_forget_0 hm ⟨Nat.le_refl _, Nat.le_refl _⟩ hK hD σ hf _ _ _ hP va_S.rf hl
/-! CallGraphs$Graph.clear()V -/
theorem in_X3_clear_X3 : ∀ w ∈ u_ws RX3 TX3 13, w ∈ wsX3_clear := fun w h => List.mem_cons_of_mem _ (List.mem_append_left _ (List.mem_append_right _ h))
def p_X3_clear_0 (σ : SS) : Option (SS) := oc (p_X4_roots_0 σ) (fun r_5 => os (sL σ 5 9 r_5) (fun s_8 => os (sL s_8 5 10 0) (fun s_13 => os (sL s_13 5 11 0) (fun s_18 => os (fL s_18 24 4 0) (fun s_26 => os (fL s_26 25 160 0) (fun s_34 => os (fL s_34 26 48 0) (fun s_42 => some s_42)))))))
set_option maxHeartbeats 4000000 in
set_option maxRecDepth 100000 in
theorem w_X3_clear_0 {p : Program} {l : Launch} {e : Env} {R : Room} {s : State} {m : MethodId} {args : Array Value} {below : List Frame} {meth : Method} {c : Code} {D : va_G} {ad : Nat → Nat} {cI cJ cZ : ClassId} {res : SS} (hm : mx p s m args meth c cX3_clear 1 none wsX3_clear RX3) (hR : 1 ≤ R.frames ∧ 24 ≤ R.locals) (hK : va_K D vwCl (tyw cI cJ cZ) s) (hD : ∀ σ, va_D (aC ad) (wC ad cI cJ cZ σ)) (σ : SS) (hf : p_X3_clear_0 σ = some res) (H : Heap) (locs : List Loc) (ls : Array Slot) (hP : va_P D vwCl (wC ad cI cJ cZ σ) H) (hS : va_S (aC ad) s.heap H locs) (hl : lv_has ls 1 [(0, .ref (ad 5))]) : W p l e R s m args below meth c H locs 0 0 (MQ below (va_Qv (fun (u : SS) => u = res) (fun u t => va_P D vwCl (wC ad cI cJ cZ u) t.heap) (aC ad)) args s 0 0 (aC ad)) (F0 m 0 ls []) := by
  obtain ⟨hx, hb, hr, hml, hown, hts, hlk⟩ := id hm
  unfold p_X3_clear_0 at hf
  refine lv_aload_n hx hb dX3_clear_0 rfl (lv_at hl 0 rfl) ?_
  refine lv_aload_n hx hb dX3_clear_1 rfl (lv_at hl 0 rfl) ?_
  refine va_get (D := D) (ci := 2) (v := .ref (ad 2)) (C := RX3) (T := TX3) (N := 13) hx hb hts in_X3_clear_X3 hown hK hP 5 (wC_5 _ _ _ _ _) rfl 1 (by decide) (hts (.fieldLink RX3 31 "CallGraphs$Graph" "members" "LCallGraphs$Members;") (List.mem_of_getElem? (i := 1) rfl)) (fun _ h9 => h9) (fC_5_1 _ _) dX3_clear_2 ?_
  obtain ⟨r_5, hg_5, hf⟩ := oc_e hf
  refine mV_rl (wd := wC ad cI cJ cZ) (σ := σ) (As := []) (rest := [.ref (ad 5)]) ⟨hx, hb, hml, hown, hts⟩ hK hP hD hS (c_X4_roots l D ad cI cJ cZ σ hg_5) (cwV 0 hts gX3_clear_X4_roots rfl rfl rfl hd_X4_roots ⟨Nat.le_trans (Nat.le_of_ble_eq_true rfl) hR.1, Nat.le_trans (Nat.le_of_ble_eq_true rfl) hR.2⟩) rfl (wC_2 _ _ _ _ _) rfl hl.1 rfl (Nat.le_of_ble_eq_true rfl) dX3_clear_5 (fun H locs hP hS => ?_)
  refine va_put (D := D) (ci := 2) (v := .long r_5) (ty := .long) (C := RX3) (T := TX3) (N := 13) hx hb hts in_X3_clear_X3 tyX3 tyX3_ok nmX3 hown hK hP (hD _) hS 5 (wC_5 _ _ _ _ _) rfl 9 (by decide) (hts (.fieldLink RX3 69 "CallGraphs$Graph" "reached" "J") (List.mem_of_getElem? (i := 2) rfl)) (fun _ h9 => h9) rfl (tyX3_ok 9 (by decide)) rfl rfl (Nat.le_of_ble_eq_true rfl) dX3_clear_8 (fun H locs hP _ hS => ?_)
  have hP := wC_p5_9 hP
  obtain ⟨s_8, es_8, hf⟩ := os_e hf
  rw [← es_8] at hP
  refine lv_aload_n hx hb dX3_clear_11 rfl (lv_at hl 0 rfl) ?_
  refine lv_lconst (v := 0) hx hb dX3_clear_12 (by decide) ?_
  refine va_put (D := D) (ci := 2) (v := .long 0) (ty := .long) (C := RX3) (T := TX3) (N := 13) hx hb hts in_X3_clear_X3 tyX3 tyX3_ok nmX3 hown hK hP (hD _) hS 5 (wC_5 _ _ _ _ _) rfl 10 (by decide) (hts (.fieldLink RX3 73 "CallGraphs$Graph" "made" "J") (List.mem_of_getElem? (i := 3) rfl)) (fun _ h9 => h9) rfl (tyX3_ok 10 (by decide)) rfl rfl (Nat.le_of_ble_eq_true rfl) dX3_clear_13 (fun H locs hP _ hS => ?_)
  have hP := wC_p5_10 hP
  obtain ⟨s_13, es_13, hf⟩ := os_e hf
  rw [← es_13] at hP
  refine lv_aload_n hx hb dX3_clear_16 rfl (lv_at hl 0 rfl) ?_
  refine lv_lconst (v := 0) hx hb dX3_clear_17 (by decide) ?_
  refine va_put (D := D) (ci := 2) (v := .long 0) (ty := .long) (C := RX3) (T := TX3) (N := 13) hx hb hts in_X3_clear_X3 tyX3 tyX3_ok nmX3 hown hK hP (hD _) hS 5 (wC_5 _ _ _ _ _) rfl 11 (by decide) (hts (.fieldLink RX3 76 "CallGraphs$Graph" "begun" "J") (List.mem_of_getElem? (i := 4) rfl)) (fun _ h9 => h9) rfl (tyX3_ok 11 (by decide)) rfl rfl (Nat.le_of_ble_eq_true rfl) dX3_clear_18 (fun H locs hP _ hS => ?_)
  have hP := wC_p5_11 hP
  obtain ⟨s_18, es_18, hf⟩ := os_e hf
  rw [← es_18] at hP
  refine lv_aload_n hx hb dX3_clear_21 rfl (lv_at hl 0 rfl) ?_
  refine va_get (D := D) (ci := 2) (v := .ref (ad 24)) (C := RX3) (T := TX3) (N := 13) hx hb hts in_X3_clear_X3 hown hK hP 5 (wC_5 _ _ _ _ _) rfl 4 (by decide) (hts (.fieldLink RX3 9 "CallGraphs$Graph" "bags" "[J") (List.mem_of_getElem? (i := 5) rfl)) (fun _ h9 => h9) (fC_5_4 _ _) dX3_clear_22 ?_
  refine lv_lconst (v := 0) hx hb dX3_clear_25 (by decide) ?_
  refine mF (ws := wC ad cI cJ cZ s_18) (ws' := wC ad cI cJ cZ (fL s_18 24 4 0)) (As := [.ref (ad 24), .long 0]) (rest := []) ⟨hx, hb, hml, hown, hts⟩ hK hP (hD _) hS (wC_24 _ _ _ _ _) rfl (c_fillL l D (ad 24) cJ (Nat.le_of_ble_eq_true rfl) _ 0) 1 rfl (va_cwS 2 hts gX3_clear_J7_fill_d0a16 rfl rfl rfl hd_J7_fill_d0a16 ⟨Nat.le_trans (Nat.le_of_ble_eq_true rfl) hR.1, Nat.le_trans (Nat.le_of_ble_eq_true rfl) hR.2⟩) rfl hl.1 rfl (Nat.le_of_ble_eq_true rfl) dX3_clear_26 ⟨Nat.zero_le _, Nat.zero_le _⟩ (fun H locs hP hS => ?_)
  obtain ⟨s_26, es_26, hf⟩ := os_e hf
  rw [← es_26] at hP
  refine lv_aload_n hx hb dX3_clear_29 rfl (lv_at hl 0 rfl) ?_
  refine va_get (D := D) (ci := 2) (v := .ref (ad 25)) (C := RX3) (T := TX3) (N := 13) hx hb hts in_X3_clear_X3 hown hK hP 5 (wC_5 _ _ _ _ _) rfl 5 (by decide) (hts (.fieldLink RX3 15 "CallGraphs$Graph" "callees" "[J") (List.mem_of_getElem? (i := 6) rfl)) (fun _ h9 => h9) (fC_5_5 _ _) dX3_clear_30 ?_
  refine lv_lconst (v := 0) hx hb dX3_clear_33 (by decide) ?_
  refine mF (ws := wC ad cI cJ cZ s_26) (ws' := wC ad cI cJ cZ (fL s_26 25 160 0)) (As := [.ref (ad 25), .long 0]) (rest := []) ⟨hx, hb, hml, hown, hts⟩ hK hP (hD _) hS (wC_25 _ _ _ _ _) rfl (c_fillL l D (ad 25) cJ (Nat.le_of_ble_eq_true rfl) _ 0) 1 rfl (va_cwS 2 hts gX3_clear_J7_fill_d0a16 rfl rfl rfl hd_J7_fill_d0a16 ⟨Nat.le_trans (Nat.le_of_ble_eq_true rfl) hR.1, Nat.le_trans (Nat.le_of_ble_eq_true rfl) hR.2⟩) rfl hl.1 rfl (Nat.le_of_ble_eq_true rfl) dX3_clear_34 ⟨Nat.zero_le _, Nat.zero_le _⟩ (fun H locs hP hS => ?_)
  obtain ⟨s_34, es_34, hf⟩ := os_e hf
  rw [← es_34] at hP
  refine lv_aload_n hx hb dX3_clear_37 rfl (lv_at hl 0 rfl) ?_
  refine va_get (D := D) (ci := 2) (v := .ref (ad 26)) (C := RX3) (T := TX3) (N := 13) hx hb hts in_X3_clear_X3 hown hK hP 5 (wC_5 _ _ _ _ _) rfl 6 (by decide) (hts (.fieldLink RX3 18 "CallGraphs$Graph" "calls" "[J") (List.mem_of_getElem? (i := 7) rfl)) (fun _ h9 => h9) (fC_5_6 _ _) dX3_clear_38 ?_
  refine lv_lconst (v := 0) hx hb dX3_clear_41 (by decide) ?_
  refine mF (ws := wC ad cI cJ cZ s_34) (ws' := wC ad cI cJ cZ (fL s_34 26 48 0)) (As := [.ref (ad 26), .long 0]) (rest := []) ⟨hx, hb, hml, hown, hts⟩ hK hP (hD _) hS (wC_26 _ _ _ _ _) rfl (c_fillL l D (ad 26) cJ (Nat.le_of_ble_eq_true rfl) _ 0) 1 rfl (va_cwS 2 hts gX3_clear_J7_fill_d0a16 rfl rfl rfl hd_J7_fill_d0a16 ⟨Nat.le_trans (Nat.le_of_ble_eq_true rfl) hR.1, Nat.le_trans (Nat.le_of_ble_eq_true rfl) hR.2⟩) rfl hl.1 rfl (Nat.le_of_ble_eq_true rfl) dX3_clear_42 ⟨Nat.zero_le _, Nat.zero_le _⟩ (fun H locs hP hS => ?_)
  obtain ⟨s_42, es_42, hf⟩ := os_e hf
  rw [← es_42] at hP
  exact rt_v (wd := wC ad cI cJ cZ) hx hb hr hlk (Option.some.inj hf) hP hS dX3_clear_45
theorem hd_X3_clear : yX3_clear.cls = RX3 ∧ yX3_clear.cls ≠ "java/lang/invoke/MethodHandle" ∧ yX3_clear.cls ≠ "java/lang/invoke/VarHandle" ∧ (parseMethodDescriptor yX3_clear.desc).map (fun d => d.parameters.length) = some 0 := by decide +kernel
set_option maxHeartbeats 4000000 in
set_option maxRecDepth 100000 in
theorem c_X3_clear (l : Launch) (D : va_G) (ad : Nat → Nat) (cI cJ cZ : ClassId) (σ : SS) {res : SS} (hf : p_X3_clear_0 σ = some res) : Met l yX3_clear wsX3_clear ({ frames := 1, cells := 0, slots := 0, locals := 24 } : Room) (PW D (tyw cI cJ cZ) (wC ad cI cJ cZ σ) [.ref (ad 5)]) (va_Qv (fun (u : SS) => u = res) (fun u t => va_P D vwCl (wC ad cI cJ cZ u) t.heap) (aC ad)) 0 0 (aC ad) := by
  refine Met.ofW (cc := cX3_clear) (maxL := 1) (ret := none) (by decide) rfl ?_
  intro p e s m args below meth c s₁ B hml hv
  obtain ⟨rfl, hP, hK, hD0⟩ := hv
  have hD : ∀ σ, va_D (aC ad) (wC ad cI cJ cZ σ) := fun σ => wd_D hD0 (wC_map _ _ _ _ _) (wC_map _ _ _ _ _)
  have hm : mx p s m _ meth c cX3_clear 1 none wsX3_clear RX3 := ⟨B.exec, B.bytes, B.returns, hml, findClass_of_methodNamed B.named, atoms_spec (ws := wsX3_clear) B.pre, B.notSynchronized⟩
  have hl := lv_entry ([.ref (ad 5)]) (n := 1) (Nat.le_of_ble_eq_true rfl)
  rw [lg_entry_eq]
  generalize (lg_sl ([.ref (ad 5)]) ++ List.replicate (1 - (lg_sl ([.ref (ad 5)])).length) Slot.unset).toArray = ls at hl ⊢
  exact w_X3_clear_0 hm ⟨Nat.le_refl _, Nat.le_refl _⟩ hK hD σ hf _ _ _ hP va_S.rf hl
/-! CallGraphs$Graph.closeCalls()V -/
theorem in_X3_closeCalls_X3 : ∀ w ∈ u_ws RX3 TX3 13, w ∈ wsX3_closeCalls := fun w h => List.mem_cons_of_mem _ (List.mem_append_left _ (List.mem_append_right _ h))
def p_X3_closeCalls_69 (k17 : Int32 → SS → Option (SS)) (k30 : Int32 → Int32 → SS → Option (SS)) (v1 : Int32) (v2 : Int32) (σ : SS) : Option (SS) := k30 v1 (v2 + 1) σ
set_option maxHeartbeats 4000000 in
set_option maxRecDepth 100000 in
theorem w_X3_closeCalls_69 {p : Program} {l : Launch} {e : Env} {R : Room} {s : State} {m : MethodId} {args : Array Value} {below : List Frame} {meth : Method} {c : Code} {D : va_G} {ad : Nat → Nat} {cI cJ cZ : ClassId} {res : SS} (hm : mx p s m args meth c cX3_closeCalls 3 none wsX3_closeCalls RX3) (hR : 1 ≤ R.frames ∧ 60 ≤ R.locals) (hK : va_K D vwCl (tyw cI cJ cZ) s) (hD : ∀ σ, va_D (aC ad) (wC ad cI cJ cZ σ)) (k17 : Int32 → SS → Option (SS)) (hk17 : ∀ (v1 : Int32) (σ : SS), k17 v1 σ = some res → ∀ (H : Heap) (locs : List Loc) (ls : Array Slot), va_P D vwCl (wC ad cI cJ cZ σ) H → va_S (aC ad) s.heap H locs → lv_has ls 3 [(0, .ref (ad 5)), (1, .int v1)] → W p l e R s m args below meth c H locs 0 0 (MQ below (va_Qv (fun (u : SS) => u = res) (fun u t => va_P D vwCl (wC ad cI cJ cZ u) t.heap) (aC ad)) args s 0 0 (aC ad)) (F0 m 17 ls [])) (k30 : Int32 → Int32 → SS → Option (SS)) (hk30 : ∀ (v1 : Int32) (v2 : Int32) (σ : SS), k30 v1 v2 σ = some res → ∀ (H : Heap) (locs : List Loc) (ls : Array Slot), va_P D vwCl (wC ad cI cJ cZ σ) H → va_S (aC ad) s.heap H locs → lv_has ls 3 [(0, .ref (ad 5)), (1, .int v1), (2, .int v2)] → W p l e R s m args below meth c H locs 0 0 (MQ below (va_Qv (fun (u : SS) => u = res) (fun u t => va_P D vwCl (wC ad cI cJ cZ u) t.heap) (aC ad)) args s 0 0 (aC ad)) (F0 m 30 ls [])) (v1 : Int32) (v2 : Int32) (σ : SS) (hf : p_X3_closeCalls_69 k17 k30 v1 v2 σ = some res) (H : Heap) (locs : List Loc) (ls : Array Slot) (hP : va_P D vwCl (wC ad cI cJ cZ σ) H) (hS : va_S (aC ad) s.heap H locs) (hl : lv_has ls 3 [(0, .ref (ad 5)), (1, .int v1), (2, .int v2)]) : W p l e R s m args below meth c H locs 0 0 (MQ below (va_Qv (fun (u : SS) => u = res) (fun u t => va_P D vwCl (wC ad cI cJ cZ u) t.heap) (aC ad)) args s 0 0 (aC ad)) (F0 m 69 ls []) := by
  obtain ⟨hx, hb, hr, hml, hown, hts, hlk⟩ := id hm
  unfold p_X3_closeCalls_69 at hf
  refine lv_iinc (v := (v2 + 1)) (lv' := [(2, .int (v2 + 1)), (0, .ref (ad 5)), (1, .int v1)]) hx hb dX3_closeCalls_69 hl (k := 2) rfl rfl (by decide) rfl (fun ls hl => ?_)
  refine lv_goto (tgt := 30) hx hb dX3_closeCalls_72 (by decide) ?_
  exact hk30 v1 (v2 + 1) σ hf _ _ _ hP hS (lv_sub hl [1, 2, 0] rfl)
def p_X3_closeCalls_30 (k17 : Int32 → SS → Option (SS)) : Nat → Int32 → Int32 → SS → Option (SS)
  | 0, _, _, _ => none
  | n + 1, v1, v2, σ => let k30 := p_X3_closeCalls_30 k17 n; oc (p_X4_size_0 σ) (fun r_35 => if r_35 ≤ v2 then k17 (v1 + 1) σ else oi v2 48 (oc (p_X0_has_0 (σ.2 27 v2.toNatClampNeg) v1) (fun r_48 => if r_48 = 0 then p_X3_closeCalls_69 k17 k30 v1 v2 σ else oi v2 48 (oi v1 48 (oi v2 48 (os (sL σ 27 (v2.toNatClampNeg) ((σ.2 27 v2.toNatClampNeg) ||| (σ.2 27 v1.toNatClampNeg))) (fun s_68 => p_X3_closeCalls_69 k17 k30 v1 v2 s_68)))))))
set_option maxHeartbeats 4000000 in
set_option maxRecDepth 100000 in
theorem w_X3_closeCalls_30 {p : Program} {l : Launch} {e : Env} {R : Room} {s : State} {m : MethodId} {args : Array Value} {below : List Frame} {meth : Method} {c : Code} {D : va_G} {ad : Nat → Nat} {cI cJ cZ : ClassId} {res : SS} (hm : mx p s m args meth c cX3_closeCalls 3 none wsX3_closeCalls RX3) (hR : 1 ≤ R.frames ∧ 60 ≤ R.locals) (hK : va_K D vwCl (tyw cI cJ cZ) s) (hD : ∀ σ, va_D (aC ad) (wC ad cI cJ cZ σ)) (k17 : Int32 → SS → Option (SS)) (hk17 : ∀ (v1 : Int32) (σ : SS), k17 v1 σ = some res → ∀ (H : Heap) (locs : List Loc) (ls : Array Slot), va_P D vwCl (wC ad cI cJ cZ σ) H → va_S (aC ad) s.heap H locs → lv_has ls 3 [(0, .ref (ad 5)), (1, .int v1)] → W p l e R s m args below meth c H locs 0 0 (MQ below (va_Qv (fun (u : SS) => u = res) (fun u t => va_P D vwCl (wC ad cI cJ cZ u) t.heap) (aC ad)) args s 0 0 (aC ad)) (F0 m 17 ls [])) : ∀ (n : Nat) (v1 : Int32) (v2 : Int32) (σ : SS), p_X3_closeCalls_30 k17 n v1 v2 σ = some res → ∀ (H : Heap) (locs : List Loc) (ls : Array Slot), va_P D vwCl (wC ad cI cJ cZ σ) H → va_S (aC ad) s.heap H locs → lv_has ls 3 [(0, .ref (ad 5)), (1, .int v1), (2, .int v2)] → W p l e R s m args below meth c H locs 0 0 (MQ below (va_Qv (fun (u : SS) => u = res) (fun u t => va_P D vwCl (wC ad cI cJ cZ u) t.heap) (aC ad)) args s 0 0 (aC ad)) (F0 m 30 ls []) := by
  obtain ⟨hx, hb, hr, hml, hown, hts, hlk⟩ := id hm
  intro n
  induction n with
  | zero =>
    intro _ _ _ hf
    cases hf
  | succ n hk30 =>
    intro v1 v2 σ hf H locs ls hP hS hl
    rw [p_X3_closeCalls_30] at hf
    try dsimp only at hf
    refine lv_iload_n hx hb dX3_closeCalls_30 rfl (lv_at hl 2 rfl) ?_
    refine lv_aload_n hx hb dX3_closeCalls_31 rfl (lv_at hl 0 rfl) ?_
    refine va_get (D := D) (ci := 2) (v := .ref (ad 2)) (C := RX3) (T := TX3) (N := 13) hx hb hts in_X3_closeCalls_X3 hown hK hP 5 (wC_5 _ _ _ _ _) rfl 1 (by decide) (hts (.fieldLink RX3 31 "CallGraphs$Graph" "members" "LCallGraphs$Members;") (List.mem_of_getElem? (i := 7) rfl)) (fun _ h9 => h9) (fC_5_1 _ _) dX3_closeCalls_32 ?_
    obtain ⟨r_35, hg_35, hf⟩ := oc_e hf
    refine mV_ri (wd := wC ad cI cJ cZ) (σ := σ) (As := []) (rest := [.int v2]) ⟨hx, hb, hml, hown, hts⟩ hK hP hD hS (c_X4_size l D ad cI cJ cZ σ hg_35) (cwV 0 hts gX3_closeCalls_X4_size rfl rfl rfl hd_X4_size ⟨Nat.le_trans (Nat.le_of_ble_eq_true rfl) hR.1, Nat.le_trans (Nat.le_of_ble_eq_true rfl) hR.2⟩) rfl (wC_2 _ _ _ _ _) rfl hl.1 rfl (Nat.le_of_ble_eq_true rfl) dX3_closeCalls_35 (fun H locs hP hS => ?_)
    refine lv_icmp_ge (tgt := 75) hx hb dX3_closeCalls_38 (by decide) (fun c_38 => ?_) (fun c_38 => ?_)
    · rw [if_pos c_38] at hf
      refine lv_iinc (v := (v1 + 1)) (lv' := [(1, .int (v1 + 1)), (0, .ref (ad 5)), (2, .int v2)]) hx hb dX3_closeCalls_75 hl (k := 1) rfl rfl (by decide) rfl (fun ls hl => ?_)
      refine lv_goto (tgt := 17) hx hb dX3_closeCalls_78 (by decide) ?_
      exact hk17 (v1 + 1) σ hf _ _ _ hP hS (lv_sub hl [1, 0] rfl)
    · rw [if_neg c_38] at hf
      refine lv_aload_n hx hb dX3_closeCalls_41 rfl (lv_at hl 0 rfl) ?_
      refine va_get (D := D) (ci := 2) (v := .ref (ad 27)) (C := RX3) (T := TX3) (N := 13) hx hb hts in_X3_closeCalls_X3 hown hK hP 5 (wC_5 _ _ _ _ _) rfl 7 (by decide) (hts (.fieldLink RX3 21 "CallGraphs$Graph" "comes" "[J") (List.mem_of_getElem? (i := 2) rfl)) (fun _ h9 => h9) (fC_5_7 _ _) dX3_closeCalls_42 ?_
      refine lv_iload_n hx hb dX3_closeCalls_45 rfl (lv_at hl 2 rfl) ?_
      obtain ⟨h_46, hf⟩ := oi_e hf
      refine va_lald hx hb hK hP 27 1 (wC_27 _ _ _ _ _) rfl h_46 dX3_closeCalls_46 ?_
      refine lv_iload_n hx hb dX3_closeCalls_47 rfl (lv_at hl 1 rfl) ?_
      obtain ⟨r_48, hg_48, hf⟩ := oc_e hf
      refine mS_i (D := D) (As := [.long (σ.2 27 v2.toNatClampNeg), .int v1]) (rest := []) ⟨hx, hb, hml, hown, hts⟩ hP hS (c_X0_has l (σ.2 27 v2.toNatClampNeg) v1 hg_48) (va_cwS 2 hts gX3_closeCalls_X0_has rfl rfl rfl hd_X0_has ⟨Nat.le_trans (Nat.le_of_ble_eq_true rfl) hR.1, Nat.le_trans (Nat.le_of_ble_eq_true rfl) hR.2⟩) rfl hl.1 rfl (Nat.le_of_ble_eq_true rfl) dX3_closeCalls_48 (fun H locs hP hS => ?_)
      refine lv_if_eq (tgt := 69) hx hb dX3_closeCalls_51 (by decide) (fun c_51 => ?_) (fun c_51 => ?_)
      · rw [if_pos c_51] at hf
        exact w_X3_closeCalls_69 hm hR hK hD k17 hk17 (p_X3_closeCalls_30 k17 n) hk30 v1 v2 σ hf _ _ _ hP hS (lv_sub hl [0, 1, 2] rfl)
      · rw [if_neg c_51] at hf
        refine lv_aload_n hx hb dX3_closeCalls_54 rfl (lv_at hl 0 rfl) ?_
        refine va_get (D := D) (ci := 2) (v := .ref (ad 27)) (C := RX3) (T := TX3) (N := 13) hx hb hts in_X3_closeCalls_X3 hown hK hP 5 (wC_5 _ _ _ _ _) rfl 7 (by decide) (hts (.fieldLink RX3 21 "CallGraphs$Graph" "comes" "[J") (List.mem_of_getElem? (i := 2) rfl)) (fun _ h9 => h9) (fC_5_7 _ _) dX3_closeCalls_55 ?_
        refine lv_iload_n hx hb dX3_closeCalls_58 rfl (lv_at hl 2 rfl) ?_
        refine lv_dup2_11 hx hb dX3_closeCalls_59 rfl rfl ?_
        obtain ⟨h_60, hf⟩ := oi_e hf
        refine va_lald hx hb hK hP 27 1 (wC_27 _ _ _ _ _) rfl h_60 dX3_closeCalls_60 ?_
        refine lv_aload_n hx hb dX3_closeCalls_61 rfl (lv_at hl 0 rfl) ?_
        refine va_get (D := D) (ci := 2) (v := .ref (ad 27)) (C := RX3) (T := TX3) (N := 13) hx hb hts in_X3_closeCalls_X3 hown hK hP 5 (wC_5 _ _ _ _ _) rfl 7 (by decide) (hts (.fieldLink RX3 21 "CallGraphs$Graph" "comes" "[J") (List.mem_of_getElem? (i := 2) rfl)) (fun _ h9 => h9) (fC_5_7 _ _) dX3_closeCalls_62 ?_
        refine lv_iload_n hx hb dX3_closeCalls_65 rfl (lv_at hl 1 rfl) ?_
        obtain ⟨h_66, hf⟩ := oi_e hf
        refine va_lald hx hb hK hP 27 1 (wC_27 _ _ _ _ _) rfl h_66 dX3_closeCalls_66 ?_
        refine lv_lor hx hb dX3_closeCalls_67 ?_
        obtain ⟨h_68, hf⟩ := oi_e hf
        refine va_last hx hb hK hP (hD _) hS 27 1 (wC_27 _ _ _ _ _) rfl h_68 dX3_closeCalls_68 (fun H locs hP _ hS => ?_)
        have hP := wC_s27 hP
        obtain ⟨s_68, es_68, hf⟩ := os_e hf
        rw [← es_68] at hP
        exact w_X3_closeCalls_69 hm hR hK hD k17 hk17 (p_X3_closeCalls_30 k17 n) hk30 v1 v2 s_68 hf _ _ _ hP hS (lv_sub hl [0, 1, 2] rfl)
def p_X3_closeCalls_17 : Nat → Int32 → SS → Option (SS)
  | 0, _, _ => none
  | n + 1, v1, σ => let k17 := p_X3_closeCalls_17 n; oc (p_X4_size_0 σ) (fun r_22 => if r_22 ≤ v1 then some σ else p_X3_closeCalls_30 k17 100000 v1 0 σ)
set_option maxHeartbeats 4000000 in
set_option maxRecDepth 100000 in
theorem w_X3_closeCalls_17 {p : Program} {l : Launch} {e : Env} {R : Room} {s : State} {m : MethodId} {args : Array Value} {below : List Frame} {meth : Method} {c : Code} {D : va_G} {ad : Nat → Nat} {cI cJ cZ : ClassId} {res : SS} (hm : mx p s m args meth c cX3_closeCalls 3 none wsX3_closeCalls RX3) (hR : 1 ≤ R.frames ∧ 60 ≤ R.locals) (hK : va_K D vwCl (tyw cI cJ cZ) s) (hD : ∀ σ, va_D (aC ad) (wC ad cI cJ cZ σ)) : ∀ (n : Nat) (v1 : Int32) (σ : SS), p_X3_closeCalls_17 n v1 σ = some res → ∀ (H : Heap) (locs : List Loc) (ls : Array Slot), va_P D vwCl (wC ad cI cJ cZ σ) H → va_S (aC ad) s.heap H locs → lv_has ls 3 [(0, .ref (ad 5)), (1, .int v1)] → W p l e R s m args below meth c H locs 0 0 (MQ below (va_Qv (fun (u : SS) => u = res) (fun u t => va_P D vwCl (wC ad cI cJ cZ u) t.heap) (aC ad)) args s 0 0 (aC ad)) (F0 m 17 ls []) := by
  obtain ⟨hx, hb, hr, hml, hown, hts, hlk⟩ := id hm
  intro n
  induction n with
  | zero =>
    intro _ _ hf
    cases hf
  | succ n hk17 =>
    intro v1 σ hf H locs ls hP hS hl
    rw [p_X3_closeCalls_17] at hf
    try dsimp only at hf
    refine lv_iload_n hx hb dX3_closeCalls_17 rfl (lv_at hl 1 rfl) ?_
    refine lv_aload_n hx hb dX3_closeCalls_18 rfl (lv_at hl 0 rfl) ?_
    refine va_get (D := D) (ci := 2) (v := .ref (ad 2)) (C := RX3) (T := TX3) (N := 13) hx hb hts in_X3_closeCalls_X3 hown hK hP 5 (wC_5 _ _ _ _ _) rfl 1 (by decide) (hts (.fieldLink RX3 31 "CallGraphs$Graph" "members" "LCallGraphs$Members;") (List.mem_of_getElem? (i := 7) rfl)) (fun _ h9 => h9) (fC_5_1 _ _) dX3_closeCalls_19 ?_
    obtain ⟨r_22, hg_22, hf⟩ := oc_e hf
    refine mV_ri (wd := wC ad cI cJ cZ) (σ := σ) (As := []) (rest := [.int v1]) ⟨hx, hb, hml, hown, hts⟩ hK hP hD hS (c_X4_size l D ad cI cJ cZ σ hg_22) (cwV 0 hts gX3_closeCalls_X4_size rfl rfl rfl hd_X4_size ⟨Nat.le_trans (Nat.le_of_ble_eq_true rfl) hR.1, Nat.le_trans (Nat.le_of_ble_eq_true rfl) hR.2⟩) rfl (wC_2 _ _ _ _ _) rfl hl.1 rfl (Nat.le_of_ble_eq_true rfl) dX3_closeCalls_22 (fun H locs hP hS => ?_)
    refine lv_icmp_ge (tgt := 81) hx hb dX3_closeCalls_25 (by decide) (fun c_25 => ?_) (fun c_25 => ?_)
    · rw [if_pos c_25] at hf
      exact rt_v (wd := wC ad cI cJ cZ) hx hb hr hlk (Option.some.inj hf) hP hS dX3_closeCalls_81
    · rw [if_neg c_25] at hf
      refine lv_iconst (v := 0) hx hb dX3_closeCalls_28 (by decide) ?_
      refine lv_istore_n (lv' := [(2, .int 0), (0, .ref (ad 5)), (1, .int v1)]) hx hb dX3_closeCalls_29 rfl hl (by decide) rfl (fun ls hl => ?_)
      exact w_X3_closeCalls_30 hm hR hK hD (p_X3_closeCalls_17 n) hk17 100000 v1 0 σ hf _ _ _ hP hS (lv_sub hl [1, 2, 0] rfl)
def p_X3_closeCalls_0 (σ : SS) : Option (SS) := os (cpL σ 26 27 48) (fun s_12 => p_X3_closeCalls_17 100000 0 s_12)
set_option maxHeartbeats 4000000 in
set_option maxRecDepth 100000 in
theorem w_X3_closeCalls_0 {p : Program} {l : Launch} {e : Env} {R : Room} {s : State} {m : MethodId} {args : Array Value} {below : List Frame} {meth : Method} {c : Code} {D : va_G} {ad : Nat → Nat} {cI cJ cZ : ClassId} {res : SS} (hm : mx p s m args meth c cX3_closeCalls 3 none wsX3_closeCalls RX3) (hR : 1 ≤ R.frames ∧ 60 ≤ R.locals) (hK : va_K D vwCl (tyw cI cJ cZ) s) (hD : ∀ σ, va_D (aC ad) (wC ad cI cJ cZ σ)) (σ : SS) (hf : p_X3_closeCalls_0 σ = some res) (H : Heap) (locs : List Loc) (ls : Array Slot) (hP : va_P D vwCl (wC ad cI cJ cZ σ) H) (hS : va_S (aC ad) s.heap H locs) (hl : lv_has ls 3 [(0, .ref (ad 5))]) : W p l e R s m args below meth c H locs 0 0 (MQ below (va_Qv (fun (u : SS) => u = res) (fun u t => va_P D vwCl (wC ad cI cJ cZ u) t.heap) (aC ad)) args s 0 0 (aC ad)) (F0 m 0 ls []) := by
  obtain ⟨hx, hb, hr, hml, hown, hts, hlk⟩ := id hm
  unfold p_X3_closeCalls_0 at hf
  refine lv_aload_n hx hb dX3_closeCalls_0 rfl (lv_at hl 0 rfl) ?_
  refine va_get (D := D) (ci := 2) (v := .ref (ad 26)) (C := RX3) (T := TX3) (N := 13) hx hb hts in_X3_closeCalls_X3 hown hK hP 5 (wC_5 _ _ _ _ _) rfl 6 (by decide) (hts (.fieldLink RX3 18 "CallGraphs$Graph" "calls" "[J") (List.mem_of_getElem? (i := 1) rfl)) (fun _ h9 => h9) (fC_5_6 _ _) dX3_closeCalls_1 ?_
  refine lv_iconst (v := 0) hx hb dX3_closeCalls_4 (by decide) ?_
  refine lv_aload_n hx hb dX3_closeCalls_5 rfl (lv_at hl 0 rfl) ?_
  refine va_get (D := D) (ci := 2) (v := .ref (ad 27)) (C := RX3) (T := TX3) (N := 13) hx hb hts in_X3_closeCalls_X3 hown hK hP 5 (wC_5 _ _ _ _ _) rfl 7 (by decide) (hts (.fieldLink RX3 21 "CallGraphs$Graph" "comes" "[J") (List.mem_of_getElem? (i := 2) rfl)) (fun _ h9 => h9) (fC_5_7 _ _) dX3_closeCalls_6 ?_
  refine lv_iconst (v := 0) hx hb dX3_closeCalls_9 (by decide) ?_
  refine lv_bipush (v := 48) hx hb dX3_closeCalls_10 (by decide) ?_
  refine va_copyl hx hb (hml.trans hl.1.symm) hown (hts (.methodLink RX3 173 arraycopyName) (List.mem_of_getElem? (i := 3) rfl)) (hts (.native arraycopyName) (List.mem_of_getElem? (i := 4) rfl)) (hts (.static arraycopyName) (List.mem_of_getElem? (i := 5) rfl)) (hts (.initialized "java/lang/System") (List.mem_of_getElem? (i := 6) rfl)) hK hP (hD _) hS 26 27 1 1 (wC_26 _ _ _ _ _) (wC_27 _ _ _ _ _) rfl rfl rfl (by decide) (by decide) (by decide) (by decide) (by decide) (fun _ _ => rfl) (Nat.le_trans (Nat.le_of_ble_eq_true rfl) hR.1) (Nat.le_trans (Nat.le_of_ble_eq_true rfl) hR.2) dX3_closeCalls_12 (fun H locs hP _ hS => ?_)
  have hP : va_P D vwCl (wC ad cI cJ cZ (cpL σ 26 27 48)) H := hP
  obtain ⟨s_12, es_12, hf⟩ := os_e hf
  rw [← es_12] at hP
  refine lv_iconst (v := 0) hx hb dX3_closeCalls_15 (by decide) ?_
  refine lv_istore_n (lv' := [(1, .int 0), (0, .ref (ad 5))]) hx hb dX3_closeCalls_16 rfl hl (by decide) rfl (fun ls hl => ?_)
  exact w_X3_closeCalls_17 hm hR hK hD 100000 0 s_12 hf _ _ _ hP hS (lv_sub hl [1, 0] rfl)
theorem hd_X3_closeCalls : yX3_closeCalls.cls = RX3 ∧ yX3_closeCalls.cls ≠ "java/lang/invoke/MethodHandle" ∧ yX3_closeCalls.cls ≠ "java/lang/invoke/VarHandle" ∧ (parseMethodDescriptor yX3_closeCalls.desc).map (fun d => d.parameters.length) = some 0 := by decide +kernel
set_option maxHeartbeats 4000000 in
set_option maxRecDepth 100000 in
theorem c_X3_closeCalls (l : Launch) (D : va_G) (ad : Nat → Nat) (cI cJ cZ : ClassId) (σ : SS) {res : SS} (hf : p_X3_closeCalls_0 σ = some res) : Met l yX3_closeCalls wsX3_closeCalls ({ frames := 1, cells := 0, slots := 0, locals := 60 } : Room) (PW D (tyw cI cJ cZ) (wC ad cI cJ cZ σ) [.ref (ad 5)]) (va_Qv (fun (u : SS) => u = res) (fun u t => va_P D vwCl (wC ad cI cJ cZ u) t.heap) (aC ad)) 0 0 (aC ad) := by
  refine Met.ofW (cc := cX3_closeCalls) (maxL := 3) (ret := none) (by decide) rfl ?_
  intro p e s m args below meth c s₁ B hml hv
  obtain ⟨rfl, hP, hK, hD0⟩ := hv
  have hD : ∀ σ, va_D (aC ad) (wC ad cI cJ cZ σ) := fun σ => wd_D hD0 (wC_map _ _ _ _ _) (wC_map _ _ _ _ _)
  have hm : mx p s m _ meth c cX3_closeCalls 3 none wsX3_closeCalls RX3 := ⟨B.exec, B.bytes, B.returns, hml, findClass_of_methodNamed B.named, atoms_spec (ws := wsX3_closeCalls) B.pre, B.notSynchronized⟩
  have hl := lv_entry ([.ref (ad 5)]) (n := 3) (Nat.le_of_ble_eq_true rfl)
  rw [lg_entry_eq]
  generalize (lg_sl ([.ref (ad 5)]) ++ List.replicate (3 - (lg_sl ([.ref (ad 5)])).length) Slot.unset).toArray = ls at hl ⊢
  exact w_X3_closeCalls_0 hm ⟨Nat.le_refl _, Nat.le_refl _⟩ hK hD σ hf _ _ _ hP va_S.rf hl
/-! CallGraphs$Graph.joinCalls()V -/
theorem in_X3_joinCalls_X3 : ∀ w ∈ u_ws RX3 TX3 13, w ∈ wsX3_joinCalls := fun w h => List.mem_cons_of_mem _ (List.mem_append_left _ (List.mem_append_left _ (List.mem_append_right _ h)))
def p_X3_joinCalls_15 (k2 : Int32 → SS → Option (SS)) : Nat → Int32 → Int32 → SS → Option (SS)
  | 0, _, _, _ => none
  | n + 1, v1, v2, σ => let k15 := p_X3_joinCalls_15 k2 n; oc (p_X5_sizeOf_0 σ v1) (fun r_21 => if r_21 ≤ v2 then k2 (v1 + 1) σ else oi v1 48 (oc (p_X5_at_0 σ v1 v2) (fun r_44 => oi r_44 160 (oi v1 48 (os (sL σ 26 (v1.toNatClampNeg) ((σ.2 26 v1.toNatClampNeg) ||| (σ.2 25 r_44.toNatClampNeg))) (fun s_49 => k15 v1 (v2 + 1) s_49))))))
set_option maxHeartbeats 4000000 in
set_option maxRecDepth 100000 in
theorem w_X3_joinCalls_15 {p : Program} {l : Launch} {e : Env} {R : Room} {s : State} {m : MethodId} {args : Array Value} {below : List Frame} {meth : Method} {c : Code} {D : va_G} {ad : Nat → Nat} {cI cJ cZ : ClassId} {res : SS} (hm : mx p s m args meth c cX3_joinCalls 3 none wsX3_joinCalls RX3) (hR : 1 ≤ R.frames ∧ 22 ≤ R.locals) (hK : va_K D vwCl (tyw cI cJ cZ) s) (hD : ∀ σ, va_D (aC ad) (wC ad cI cJ cZ σ)) (k2 : Int32 → SS → Option (SS)) (hk2 : ∀ (v1 : Int32) (σ : SS), k2 v1 σ = some res → ∀ (H : Heap) (locs : List Loc) (ls : Array Slot), va_P D vwCl (wC ad cI cJ cZ σ) H → va_S (aC ad) s.heap H locs → lv_has ls 3 [(0, .ref (ad 5)), (1, .int v1)] → W p l e R s m args below meth c H locs 0 0 (MQ below (va_Qv (fun (u : SS) => u = res) (fun u t => va_P D vwCl (wC ad cI cJ cZ u) t.heap) (aC ad)) args s 0 0 (aC ad)) (F0 m 2 ls [])) : ∀ (n : Nat) (v1 : Int32) (v2 : Int32) (σ : SS), p_X3_joinCalls_15 k2 n v1 v2 σ = some res → ∀ (H : Heap) (locs : List Loc) (ls : Array Slot), va_P D vwCl (wC ad cI cJ cZ σ) H → va_S (aC ad) s.heap H locs → lv_has ls 3 [(0, .ref (ad 5)), (1, .int v1), (2, .int v2)] → W p l e R s m args below meth c H locs 0 0 (MQ below (va_Qv (fun (u : SS) => u = res) (fun u t => va_P D vwCl (wC ad cI cJ cZ u) t.heap) (aC ad)) args s 0 0 (aC ad)) (F0 m 15 ls []) := by
  obtain ⟨hx, hb, hr, hml, hown, hts, hlk⟩ := id hm
  intro n
  induction n with
  | zero =>
    intro _ _ _ hf
    cases hf
  | succ n hk15 =>
    intro v1 v2 σ hf H locs ls hP hS hl
    rw [p_X3_joinCalls_15] at hf
    try dsimp only at hf
    refine lv_iload_n hx hb dX3_joinCalls_15 rfl (lv_at hl 2 rfl) ?_
    refine lv_aload_n hx hb dX3_joinCalls_16 rfl (lv_at hl 0 rfl) ?_
    refine va_get (D := D) (ci := 2) (v := .ref (ad 4)) (C := RX3) (T := TX3) (N := 13) hx hb hts in_X3_joinCalls_X3 hown hK hP 5 (wC_5 _ _ _ _ _) rfl 3 (by decide) (hts (.fieldLink RX3 39 "CallGraphs$Graph" "ops" "LCallGraphs$Ops;") (List.mem_of_getElem? (i := 2) rfl)) (fun _ h9 => h9) (fC_5_3 _ _) dX3_joinCalls_17 ?_
    refine lv_iload_n hx hb dX3_joinCalls_20 rfl (lv_at hl 1 rfl) ?_
    obtain ⟨r_21, hg_21, hf⟩ := oc_e hf
    refine mV_ri (wd := wC ad cI cJ cZ) (σ := σ) (As := [.int v1]) (rest := [.int v2]) ⟨hx, hb, hml, hown, hts⟩ hK hP hD hS (c_X5_sizeOf l D ad cI cJ cZ σ v1 hg_21) (cwV 1 hts gX3_joinCalls_X5_sizeOf rfl rfl rfl hd_X5_sizeOf ⟨Nat.le_trans (Nat.le_of_ble_eq_true rfl) hR.1, Nat.le_trans (Nat.le_of_ble_eq_true rfl) hR.2⟩) rfl (wC_4 _ _ _ _ _) rfl hl.1 rfl (Nat.le_of_ble_eq_true rfl) dX3_joinCalls_21 (fun H locs hP hS => ?_)
    refine lv_icmp_ge (tgt := 56) hx hb dX3_joinCalls_24 (by decide) (fun c_24 => ?_) (fun c_24 => ?_)
    · rw [if_pos c_24] at hf
      refine lv_iinc (v := (v1 + 1)) (lv' := [(1, .int (v1 + 1)), (0, .ref (ad 5)), (2, .int v2)]) hx hb dX3_joinCalls_56 hl (k := 1) rfl rfl (by decide) rfl (fun ls hl => ?_)
      refine lv_goto (tgt := 2) hx hb dX3_joinCalls_59 (by decide) ?_
      exact hk2 (v1 + 1) σ hf _ _ _ hP hS (lv_sub hl [1, 0] rfl)
    · rw [if_neg c_24] at hf
      refine lv_aload_n hx hb dX3_joinCalls_27 rfl (lv_at hl 0 rfl) ?_
      refine va_get (D := D) (ci := 2) (v := .ref (ad 26)) (C := RX3) (T := TX3) (N := 13) hx hb hts in_X3_joinCalls_X3 hown hK hP 5 (wC_5 _ _ _ _ _) rfl 6 (by decide) (hts (.fieldLink RX3 18 "CallGraphs$Graph" "calls" "[J") (List.mem_of_getElem? (i := 3) rfl)) (fun _ h9 => h9) (fC_5_6 _ _) dX3_joinCalls_28 ?_
      refine lv_iload_n hx hb dX3_joinCalls_31 rfl (lv_at hl 1 rfl) ?_
      refine lv_dup2_11 hx hb dX3_joinCalls_32 rfl rfl ?_
      obtain ⟨h_33, hf⟩ := oi_e hf
      refine va_lald hx hb hK hP 26 1 (wC_26 _ _ _ _ _) rfl h_33 dX3_joinCalls_33 ?_
      refine lv_aload_n hx hb dX3_joinCalls_34 rfl (lv_at hl 0 rfl) ?_
      refine va_get (D := D) (ci := 2) (v := .ref (ad 25)) (C := RX3) (T := TX3) (N := 13) hx hb hts in_X3_joinCalls_X3 hown hK hP 5 (wC_5 _ _ _ _ _) rfl 5 (by decide) (hts (.fieldLink RX3 15 "CallGraphs$Graph" "callees" "[J") (List.mem_of_getElem? (i := 4) rfl)) (fun _ h9 => h9) (fC_5_5 _ _) dX3_joinCalls_35 ?_
      refine lv_aload_n hx hb dX3_joinCalls_38 rfl (lv_at hl 0 rfl) ?_
      refine va_get (D := D) (ci := 2) (v := .ref (ad 4)) (C := RX3) (T := TX3) (N := 13) hx hb hts in_X3_joinCalls_X3 hown hK hP 5 (wC_5 _ _ _ _ _) rfl 3 (by decide) (hts (.fieldLink RX3 39 "CallGraphs$Graph" "ops" "LCallGraphs$Ops;") (List.mem_of_getElem? (i := 2) rfl)) (fun _ h9 => h9) (fC_5_3 _ _) dX3_joinCalls_39 ?_
      refine lv_iload_n hx hb dX3_joinCalls_42 rfl (lv_at hl 1 rfl) ?_
      refine lv_iload_n hx hb dX3_joinCalls_43 rfl (lv_at hl 2 rfl) ?_
      obtain ⟨r_44, hg_44, hf⟩ := oc_e hf
      refine mV_ri (wd := wC ad cI cJ cZ) (σ := σ) (As := [.int v1, .int v2]) (rest := [.ref (ad 25), .long (σ.2 26 v1.toNatClampNeg), .int v1, .ref (ad 26)]) ⟨hx, hb, hml, hown, hts⟩ hK hP hD hS (c_X5_at l D ad cI cJ cZ σ v1 v2 hg_44) (cwV 2 hts gX3_joinCalls_X5_at rfl rfl rfl hd_X5_at ⟨Nat.le_trans (Nat.le_of_ble_eq_true rfl) hR.1, Nat.le_trans (Nat.le_of_ble_eq_true rfl) hR.2⟩) rfl (wC_4 _ _ _ _ _) rfl hl.1 rfl (Nat.le_of_ble_eq_true rfl) dX3_joinCalls_44 (fun H locs hP hS => ?_)
      obtain ⟨h_47, hf⟩ := oi_e hf
      refine va_lald hx hb hK hP 25 1 (wC_25 _ _ _ _ _) rfl h_47 dX3_joinCalls_47 ?_
      refine lv_lor hx hb dX3_joinCalls_48 ?_
      obtain ⟨h_49, hf⟩ := oi_e hf
      refine va_last hx hb hK hP (hD _) hS 26 1 (wC_26 _ _ _ _ _) rfl h_49 dX3_joinCalls_49 (fun H locs hP _ hS => ?_)
      have hP := wC_s26 hP
      obtain ⟨s_49, es_49, hf⟩ := os_e hf
      rw [← es_49] at hP
      refine lv_iinc (v := (v2 + 1)) (lv' := [(2, .int (v2 + 1)), (0, .ref (ad 5)), (1, .int v1)]) hx hb dX3_joinCalls_50 hl (k := 2) rfl rfl (by decide) rfl (fun ls hl => ?_)
      refine lv_goto (tgt := 15) hx hb dX3_joinCalls_53 (by decide) ?_
      exact hk15 v1 (v2 + 1) s_49 hf _ _ _ hP hS (lv_sub hl [1, 2, 0] rfl)
def p_X3_joinCalls_2 : Nat → Int32 → SS → Option (SS)
  | 0, _, _ => none
  | n + 1, v1, σ => let k2 := p_X3_joinCalls_2 n; oc (p_X4_size_0 σ) (fun r_7 => if r_7 ≤ v1 then some σ else p_X3_joinCalls_15 k2 100000 v1 0 σ)
set_option maxHeartbeats 4000000 in
set_option maxRecDepth 100000 in
theorem w_X3_joinCalls_2 {p : Program} {l : Launch} {e : Env} {R : Room} {s : State} {m : MethodId} {args : Array Value} {below : List Frame} {meth : Method} {c : Code} {D : va_G} {ad : Nat → Nat} {cI cJ cZ : ClassId} {res : SS} (hm : mx p s m args meth c cX3_joinCalls 3 none wsX3_joinCalls RX3) (hR : 1 ≤ R.frames ∧ 22 ≤ R.locals) (hK : va_K D vwCl (tyw cI cJ cZ) s) (hD : ∀ σ, va_D (aC ad) (wC ad cI cJ cZ σ)) : ∀ (n : Nat) (v1 : Int32) (σ : SS), p_X3_joinCalls_2 n v1 σ = some res → ∀ (H : Heap) (locs : List Loc) (ls : Array Slot), va_P D vwCl (wC ad cI cJ cZ σ) H → va_S (aC ad) s.heap H locs → lv_has ls 3 [(0, .ref (ad 5)), (1, .int v1)] → W p l e R s m args below meth c H locs 0 0 (MQ below (va_Qv (fun (u : SS) => u = res) (fun u t => va_P D vwCl (wC ad cI cJ cZ u) t.heap) (aC ad)) args s 0 0 (aC ad)) (F0 m 2 ls []) := by
  obtain ⟨hx, hb, hr, hml, hown, hts, hlk⟩ := id hm
  intro n
  induction n with
  | zero =>
    intro _ _ hf
    cases hf
  | succ n hk2 =>
    intro v1 σ hf H locs ls hP hS hl
    rw [p_X3_joinCalls_2] at hf
    try dsimp only at hf
    refine lv_iload_n hx hb dX3_joinCalls_2 rfl (lv_at hl 1 rfl) ?_
    refine lv_aload_n hx hb dX3_joinCalls_3 rfl (lv_at hl 0 rfl) ?_
    refine va_get (D := D) (ci := 2) (v := .ref (ad 2)) (C := RX3) (T := TX3) (N := 13) hx hb hts in_X3_joinCalls_X3 hown hK hP 5 (wC_5 _ _ _ _ _) rfl 1 (by decide) (hts (.fieldLink RX3 31 "CallGraphs$Graph" "members" "LCallGraphs$Members;") (List.mem_of_getElem? (i := 1) rfl)) (fun _ h9 => h9) (fC_5_1 _ _) dX3_joinCalls_4 ?_
    obtain ⟨r_7, hg_7, hf⟩ := oc_e hf
    refine mV_ri (wd := wC ad cI cJ cZ) (σ := σ) (As := []) (rest := [.int v1]) ⟨hx, hb, hml, hown, hts⟩ hK hP hD hS (c_X4_size l D ad cI cJ cZ σ hg_7) (cwV 0 hts gX3_joinCalls_X4_size rfl rfl rfl hd_X4_size ⟨Nat.le_trans (Nat.le_of_ble_eq_true rfl) hR.1, Nat.le_trans (Nat.le_of_ble_eq_true rfl) hR.2⟩) rfl (wC_2 _ _ _ _ _) rfl hl.1 rfl (Nat.le_of_ble_eq_true rfl) dX3_joinCalls_7 (fun H locs hP hS => ?_)
    refine lv_icmp_ge (tgt := 62) hx hb dX3_joinCalls_10 (by decide) (fun c_10 => ?_) (fun c_10 => ?_)
    · rw [if_pos c_10] at hf
      exact rt_v (wd := wC ad cI cJ cZ) hx hb hr hlk (Option.some.inj hf) hP hS dX3_joinCalls_62
    · rw [if_neg c_10] at hf
      refine lv_iconst (v := 0) hx hb dX3_joinCalls_13 (by decide) ?_
      refine lv_istore_n (lv' := [(2, .int 0), (0, .ref (ad 5)), (1, .int v1)]) hx hb dX3_joinCalls_14 rfl hl (by decide) rfl (fun ls hl => ?_)
      exact w_X3_joinCalls_15 hm hR hK hD (p_X3_joinCalls_2 n) hk2 100000 v1 0 σ hf _ _ _ hP hS (lv_sub hl [1, 2, 0] rfl)
def p_X3_joinCalls_0 (σ : SS) : Option (SS) := p_X3_joinCalls_2 100000 0 σ
set_option maxHeartbeats 4000000 in
set_option maxRecDepth 100000 in
theorem w_X3_joinCalls_0 {p : Program} {l : Launch} {e : Env} {R : Room} {s : State} {m : MethodId} {args : Array Value} {below : List Frame} {meth : Method} {c : Code} {D : va_G} {ad : Nat → Nat} {cI cJ cZ : ClassId} {res : SS} (hm : mx p s m args meth c cX3_joinCalls 3 none wsX3_joinCalls RX3) (hR : 1 ≤ R.frames ∧ 22 ≤ R.locals) (hK : va_K D vwCl (tyw cI cJ cZ) s) (hD : ∀ σ, va_D (aC ad) (wC ad cI cJ cZ σ)) (σ : SS) (hf : p_X3_joinCalls_0 σ = some res) (H : Heap) (locs : List Loc) (ls : Array Slot) (hP : va_P D vwCl (wC ad cI cJ cZ σ) H) (hS : va_S (aC ad) s.heap H locs) (hl : lv_has ls 3 [(0, .ref (ad 5))]) : W p l e R s m args below meth c H locs 0 0 (MQ below (va_Qv (fun (u : SS) => u = res) (fun u t => va_P D vwCl (wC ad cI cJ cZ u) t.heap) (aC ad)) args s 0 0 (aC ad)) (F0 m 0 ls []) := by
  obtain ⟨hx, hb, hr, hml, hown, hts, hlk⟩ := id hm
  unfold p_X3_joinCalls_0 at hf
  refine lv_iconst (v := 0) hx hb dX3_joinCalls_0 (by decide) ?_
  refine lv_istore_n (lv' := [(1, .int 0), (0, .ref (ad 5))]) hx hb dX3_joinCalls_1 rfl hl (by decide) rfl (fun ls hl => ?_)
  exact w_X3_joinCalls_2 hm hR hK hD 100000 0 σ hf _ _ _ hP hS (lv_sub hl [1, 0] rfl)
theorem hd_X3_joinCalls : yX3_joinCalls.cls = RX3 ∧ yX3_joinCalls.cls ≠ "java/lang/invoke/MethodHandle" ∧ yX3_joinCalls.cls ≠ "java/lang/invoke/VarHandle" ∧ (parseMethodDescriptor yX3_joinCalls.desc).map (fun d => d.parameters.length) = some 0 := by decide +kernel
set_option maxHeartbeats 4000000 in
set_option maxRecDepth 100000 in
theorem c_X3_joinCalls (l : Launch) (D : va_G) (ad : Nat → Nat) (cI cJ cZ : ClassId) (σ : SS) {res : SS} (hf : p_X3_joinCalls_0 σ = some res) : Met l yX3_joinCalls wsX3_joinCalls ({ frames := 1, cells := 0, slots := 0, locals := 22 } : Room) (PW D (tyw cI cJ cZ) (wC ad cI cJ cZ σ) [.ref (ad 5)]) (va_Qv (fun (u : SS) => u = res) (fun u t => va_P D vwCl (wC ad cI cJ cZ u) t.heap) (aC ad)) 0 0 (aC ad) := by
  refine Met.ofW (cc := cX3_joinCalls) (maxL := 3) (ret := none) (by decide) rfl ?_
  intro p e s m args below meth c s₁ B hml hv
  obtain ⟨rfl, hP, hK, hD0⟩ := hv
  have hD : ∀ σ, va_D (aC ad) (wC ad cI cJ cZ σ) := fun σ => wd_D hD0 (wC_map _ _ _ _ _) (wC_map _ _ _ _ _)
  have hm : mx p s m _ meth c cX3_joinCalls 3 none wsX3_joinCalls RX3 := ⟨B.exec, B.bytes, B.returns, hml, findClass_of_methodNamed B.named, atoms_spec (ws := wsX3_joinCalls) B.pre, B.notSynchronized⟩
  have hl := lv_entry ([.ref (ad 5)]) (n := 3) (Nat.le_of_ble_eq_true rfl)
  rw [lg_entry_eq]
  generalize (lg_sl ([.ref (ad 5)]) ++ List.replicate (3 - (lg_sl ([.ref (ad 5)])).length) Slot.unset).toArray = ls at hl ⊢
  exact w_X3_joinCalls_0 hm ⟨Nat.le_refl _, Nat.le_refl _⟩ hK hD σ hf _ _ _ hP va_S.rf hl
/-! CallGraphs$Graph.addCallee(II)V -/
theorem in_X3_addCallee_X3 : ∀ w ∈ u_ws RX3 TX3 13, w ∈ wsX3_addCallee := fun w h => List.mem_cons_of_mem _ (List.mem_append_right _ h)
def p_X3_addCallee_16 (σ : SS) : Option (SS) := some σ
set_option maxHeartbeats 4000000 in
set_option maxRecDepth 100000 in
theorem w_X3_addCallee_16 {p : Program} {l : Launch} {e : Env} {R : Room} {s : State} {m : MethodId} {args : Array Value} {below : List Frame} {meth : Method} {c : Code} {D : va_G} {ad : Nat → Nat} {cI cJ cZ : ClassId} {res : SS} (hm : mx p s m args meth c cX3_addCallee 3 none wsX3_addCallee RX3) (hR : 0 ≤ R.frames ∧ 0 ≤ R.locals) (hK : va_K D vwCl (tyw cI cJ cZ) s) (hD : ∀ σ, va_D (aC ad) (wC ad cI cJ cZ σ)) (σ : SS) (hf : p_X3_addCallee_16 σ = some res) (H : Heap) (locs : List Loc) (ls : Array Slot) (hP : va_P D vwCl (wC ad cI cJ cZ σ) H) (hS : va_S (aC ad) s.heap H locs) (hl : lv_has ls 3 []) : W p l e R s m args below meth c H locs 0 0 (MQ below (va_Qv (fun (u : SS) => u = res) (fun u t => va_P D vwCl (wC ad cI cJ cZ u) t.heap) (aC ad)) args s 0 0 (aC ad)) (F0 m 16 ls []) := by
  obtain ⟨hx, hb, hr, hml, hown, hts, hlk⟩ := id hm
  unfold p_X3_addCallee_16 at hf
  exact rt_v (wd := wC ad cI cJ cZ) hx hb hr hlk (Option.some.inj hf) hP hS dX3_addCallee_16
def p_X3_addCallee_0 (v1 : Int32) (v2 : Int32) (σ : SS) : Option (SS) := if v2 < 0 then p_X3_addCallee_16 σ else oi v1 160 (oi v1 160 (os (sL σ 25 (v1.toNatClampNeg) ((σ.2 25 v1.toNatClampNeg) ||| (jshl 1 v2))) (fun s_15 => p_X3_addCallee_16 s_15)))
set_option maxHeartbeats 4000000 in
set_option maxRecDepth 100000 in
theorem w_X3_addCallee_0 {p : Program} {l : Launch} {e : Env} {R : Room} {s : State} {m : MethodId} {args : Array Value} {below : List Frame} {meth : Method} {c : Code} {D : va_G} {ad : Nat → Nat} {cI cJ cZ : ClassId} {res : SS} (hm : mx p s m args meth c cX3_addCallee 3 none wsX3_addCallee RX3) (hR : 0 ≤ R.frames ∧ 0 ≤ R.locals) (hK : va_K D vwCl (tyw cI cJ cZ) s) (hD : ∀ σ, va_D (aC ad) (wC ad cI cJ cZ σ)) (v1 : Int32) (v2 : Int32) (σ : SS) (hf : p_X3_addCallee_0 v1 v2 σ = some res) (H : Heap) (locs : List Loc) (ls : Array Slot) (hP : va_P D vwCl (wC ad cI cJ cZ σ) H) (hS : va_S (aC ad) s.heap H locs) (hl : lv_has ls 3 [(0, .ref (ad 5)), (1, .int v1), (2, .int v2)]) : W p l e R s m args below meth c H locs 0 0 (MQ below (va_Qv (fun (u : SS) => u = res) (fun u t => va_P D vwCl (wC ad cI cJ cZ u) t.heap) (aC ad)) args s 0 0 (aC ad)) (F0 m 0 ls []) := by
  obtain ⟨hx, hb, hr, hml, hown, hts, hlk⟩ := id hm
  unfold p_X3_addCallee_0 at hf
  refine lv_iload_n hx hb dX3_addCallee_0 rfl (lv_at hl 2 rfl) ?_
  refine lv_if_lt (tgt := 16) hx hb dX3_addCallee_1 (by decide) (fun c_1 => ?_) (fun c_1 => ?_)
  · rw [if_pos c_1] at hf
    exact w_X3_addCallee_16 hm hR hK hD σ hf _ _ _ hP hS (lv_sub hl [] rfl)
  · rw [if_neg c_1] at hf
    refine lv_aload_n hx hb dX3_addCallee_4 rfl (lv_at hl 0 rfl) ?_
    refine va_get (D := D) (ci := 2) (v := .ref (ad 25)) (C := RX3) (T := TX3) (N := 13) hx hb hts in_X3_addCallee_X3 hown hK hP 5 (wC_5 _ _ _ _ _) rfl 5 (by decide) (hts (.fieldLink RX3 15 "CallGraphs$Graph" "callees" "[J") (List.mem_of_getElem? (i := 1) rfl)) (fun _ h9 => h9) (fC_5_5 _ _) dX3_addCallee_5 ?_
    refine lv_iload_n hx hb dX3_addCallee_8 rfl (lv_at hl 1 rfl) ?_
    refine lv_dup2_11 hx hb dX3_addCallee_9 rfl rfl ?_
    obtain ⟨h_10, hf⟩ := oi_e hf
    refine va_lald hx hb hK hP 25 1 (wC_25 _ _ _ _ _) rfl h_10 dX3_addCallee_10 ?_
    refine lv_lconst (v := 1) hx hb dX3_addCallee_11 (by decide) ?_
    refine lv_iload_n hx hb dX3_addCallee_12 rfl (lv_at hl 2 rfl) ?_
    refine lv_lshl (v := (jshl 1 v2)) hx hb dX3_addCallee_13 rfl ?_
    refine lv_lor hx hb dX3_addCallee_14 ?_
    obtain ⟨h_15, hf⟩ := oi_e hf
    refine va_last hx hb hK hP (hD _) hS 25 1 (wC_25 _ _ _ _ _) rfl h_15 dX3_addCallee_15 (fun H locs hP _ hS => ?_)
    have hP := wC_s25 hP
    obtain ⟨s_15, es_15, hf⟩ := os_e hf
    rw [← es_15] at hP
    exact w_X3_addCallee_16 hm hR hK hD s_15 hf _ _ _ hP hS (lv_sub hl [] rfl)
theorem hd_X3_addCallee : yX3_addCallee.cls = RX3 ∧ yX3_addCallee.cls ≠ "java/lang/invoke/MethodHandle" ∧ yX3_addCallee.cls ≠ "java/lang/invoke/VarHandle" ∧ (parseMethodDescriptor yX3_addCallee.desc).map (fun d => d.parameters.length) = some 2 := by decide +kernel
set_option maxHeartbeats 4000000 in
set_option maxRecDepth 100000 in
theorem c_X3_addCallee (l : Launch) (D : va_G) (ad : Nat → Nat) (cI cJ cZ : ClassId) (σ : SS) (v1 : Int32) (v2 : Int32) {res : SS} (hf : p_X3_addCallee_0 v1 v2 σ = some res) : Met l yX3_addCallee wsX3_addCallee ({ frames := 0, cells := 0, slots := 0, locals := 0 } : Room) (PW D (tyw cI cJ cZ) (wC ad cI cJ cZ σ) [.ref (ad 5), .int v1, .int v2]) (va_Qv (fun (u : SS) => u = res) (fun u t => va_P D vwCl (wC ad cI cJ cZ u) t.heap) (aC ad)) 0 0 (aC ad) := by
  refine Met.ofW (cc := cX3_addCallee) (maxL := 3) (ret := none) (by decide) rfl ?_
  intro p e s m args below meth c s₁ B hml hv
  obtain ⟨rfl, hP, hK, hD0⟩ := hv
  have hD : ∀ σ, va_D (aC ad) (wC ad cI cJ cZ σ) := fun σ => wd_D hD0 (wC_map _ _ _ _ _) (wC_map _ _ _ _ _)
  have hm : mx p s m _ meth c cX3_addCallee 3 none wsX3_addCallee RX3 := ⟨B.exec, B.bytes, B.returns, hml, findClass_of_methodNamed B.named, atoms_spec (ws := wsX3_addCallee) B.pre, B.notSynchronized⟩
  have hl := lv_entry ([.ref (ad 5), .int v1, .int v2]) (n := 3) (Nat.le_of_ble_eq_true rfl)
  rw [lg_entry_eq]
  generalize (lg_sl ([.ref (ad 5), .int v1, .int v2]) ++ List.replicate (3 - (lg_sl ([.ref (ad 5), .int v1, .int v2])).length) Slot.unset).toArray = ls at hl ⊢
  exact w_X3_addCallee_0 hm ⟨Nat.le_refl _, Nat.le_refl _⟩ hK hD v1 v2 σ hf _ _ _ hP va_S.rf hl
/-! CallGraphs$Graph.begin(II)V -/
theorem in_X3_begin_X3 : ∀ w ∈ u_ws RX3 TX3 13, w ∈ wsX3_begin := fun w h => List.mem_cons_of_mem _ (List.mem_append_left _ (List.mem_append_left _ (List.mem_append_right _ h)))
def p_X3_begin_94 (k65 : Int32 → Int32 → Int64 → Int32 → SS → Option (SS)) (v1 : Int32) (v2 : Int32) (v3 : Int64) (v6 : Int32) (σ : SS) : Option (SS) := k65 v1 v2 v3 (v6 + 1) σ
set_option maxHeartbeats 4000000 in
set_option maxRecDepth 100000 in
theorem w_X3_begin_94 {p : Program} {l : Launch} {e : Env} {R : Room} {s : State} {m : MethodId} {args : Array Value} {below : List Frame} {meth : Method} {c : Code} {D : va_G} {ad : Nat → Nat} {cI cJ cZ : ClassId} {res : SS} (hm : mx p s m args meth c cX3_begin 7 none wsX3_begin RX3) (hR : 2 ≤ R.frames ∧ 42 ≤ R.locals) (hK : va_K D vwCl (tyw cI cJ cZ) s) (hD : ∀ σ, va_D (aC ad) (wC ad cI cJ cZ σ)) (k65 : Int32 → Int32 → Int64 → Int32 → SS → Option (SS)) (hk65 : ∀ (v1 : Int32) (v2 : Int32) (v3 : Int64) (v6 : Int32) (σ : SS), k65 v1 v2 v3 v6 σ = some res → ∀ (H : Heap) (locs : List Loc) (ls : Array Slot), va_P D vwCl (wC ad cI cJ cZ σ) H → va_S (aC ad) s.heap H locs → lv_has ls 7 [(0, .ref (ad 5)), (1, .int v1), (2, .int v2), (3, .long v3), (6, .int v6)] → W p l e R s m args below meth c H locs 0 0 (MQ below (va_Qv (fun (u : SS) => u = res) (fun u t => va_P D vwCl (wC ad cI cJ cZ u) t.heap) (aC ad)) args s 0 0 (aC ad)) (F0 m 65 ls [])) (v1 : Int32) (v2 : Int32) (v3 : Int64) (v6 : Int32) (σ : SS) (hf : p_X3_begin_94 k65 v1 v2 v3 v6 σ = some res) (H : Heap) (locs : List Loc) (ls : Array Slot) (hP : va_P D vwCl (wC ad cI cJ cZ σ) H) (hS : va_S (aC ad) s.heap H locs) (hl : lv_has ls 7 [(0, .ref (ad 5)), (1, .int v1), (2, .int v2), (3, .long v3), (6, .int v6)]) : W p l e R s m args below meth c H locs 0 0 (MQ below (va_Qv (fun (u : SS) => u = res) (fun u t => va_P D vwCl (wC ad cI cJ cZ u) t.heap) (aC ad)) args s 0 0 (aC ad)) (F0 m 94 ls []) := by
  obtain ⟨hx, hb, hr, hml, hown, hts, hlk⟩ := id hm
  unfold p_X3_begin_94 at hf
  refine lv_iinc (v := (v6 + 1)) (lv' := [(6, .int (v6 + 1)), (0, .ref (ad 5)), (1, .int v1), (2, .int v2), (3, .long v3)]) hx hb dX3_begin_94 hl (k := 4) rfl rfl (by decide) rfl (fun ls hl => ?_)
  refine lv_goto (tgt := 65) hx hb dX3_begin_97 (by decide) ?_
  exact hk65 v1 v2 v3 (v6 + 1) σ hf _ _ _ hP hS (lv_sub hl [1, 2, 3, 4, 0] rfl)
def p_X3_begin_65 : Nat → Int32 → Int32 → Int64 → Int32 → SS → Option (SS)
  | 0, _, _, _, _, _ => none
  | n + 1, v1, v2, v3, v6, σ => let k65 := p_X3_begin_65 n; if v2 < v6 then some σ else oc (p_X0_has_0 v3 v6) (fun r_74 => if r_74 = 0 then p_X3_begin_94 k65 v1 v2 v3 v6 σ else oc (p_X4_startOf_0 σ v6) (fun r_88 => oc (p_X3_addCallee_0 v1 r_88 σ) (fun r_91 => p_X3_begin_94 k65 v1 v2 v3 v6 r_91)))
set_option maxHeartbeats 4000000 in
set_option maxRecDepth 100000 in
theorem w_X3_begin_65 {p : Program} {l : Launch} {e : Env} {R : Room} {s : State} {m : MethodId} {args : Array Value} {below : List Frame} {meth : Method} {c : Code} {D : va_G} {ad : Nat → Nat} {cI cJ cZ : ClassId} {res : SS} (hm : mx p s m args meth c cX3_begin 7 none wsX3_begin RX3) (hR : 2 ≤ R.frames ∧ 42 ≤ R.locals) (hK : va_K D vwCl (tyw cI cJ cZ) s) (hD : ∀ σ, va_D (aC ad) (wC ad cI cJ cZ σ)) : ∀ (n : Nat) (v1 : Int32) (v2 : Int32) (v3 : Int64) (v6 : Int32) (σ : SS), p_X3_begin_65 n v1 v2 v3 v6 σ = some res → ∀ (H : Heap) (locs : List Loc) (ls : Array Slot), va_P D vwCl (wC ad cI cJ cZ σ) H → va_S (aC ad) s.heap H locs → lv_has ls 7 [(0, .ref (ad 5)), (1, .int v1), (2, .int v2), (3, .long v3), (6, .int v6)] → W p l e R s m args below meth c H locs 0 0 (MQ below (va_Qv (fun (u : SS) => u = res) (fun u t => va_P D vwCl (wC ad cI cJ cZ u) t.heap) (aC ad)) args s 0 0 (aC ad)) (F0 m 65 ls []) := by
  obtain ⟨hx, hb, hr, hml, hown, hts, hlk⟩ := id hm
  intro n
  induction n with
  | zero =>
    intro _ _ _ _ _ hf
    cases hf
  | succ n hk65 =>
    intro v1 v2 v3 v6 σ hf H locs ls hP hS hl
    rw [p_X3_begin_65] at hf
    try dsimp only at hf
    refine lv_iload hx hb dX3_begin_65 (lv_at hl 4 rfl) ?_
    refine lv_iload_n hx hb dX3_begin_67 rfl (lv_at hl 2 rfl) ?_
    refine lv_icmp_gt (tgt := 100) hx hb dX3_begin_68 (by decide) (fun c_68 => ?_) (fun c_68 => ?_)
    · rw [if_pos c_68] at hf
      exact rt_v (wd := wC ad cI cJ cZ) hx hb hr hlk (Option.some.inj hf) hP hS dX3_begin_100
    · rw [if_neg c_68] at hf
      refine lv_lload_n hx hb dX3_begin_71 rfl (lv_at hl 3 rfl) ?_
      refine lv_iload hx hb dX3_begin_72 (lv_at hl 4 rfl) ?_
      obtain ⟨r_74, hg_74, hf⟩ := oc_e hf
      refine mS_i (D := D) (As := [.long v3, .int v6]) (rest := []) ⟨hx, hb, hml, hown, hts⟩ hP hS (c_X0_has l v3 v6 hg_74) (va_cwS 2 hts gX3_begin_X0_has rfl rfl rfl hd_X0_has ⟨Nat.le_trans (Nat.le_of_ble_eq_true rfl) hR.1, Nat.le_trans (Nat.le_of_ble_eq_true rfl) hR.2⟩) rfl hl.1 rfl (Nat.le_of_ble_eq_true rfl) dX3_begin_74 (fun H locs hP hS => ?_)
      refine lv_if_eq (tgt := 94) hx hb dX3_begin_77 (by decide) (fun c_77 => ?_) (fun c_77 => ?_)
      · rw [if_pos c_77] at hf
        exact w_X3_begin_94 hm hR hK hD (p_X3_begin_65 n) hk65 v1 v2 v3 v6 σ hf _ _ _ hP hS (lv_sub hl [0, 1, 2, 3, 4] rfl)
      · rw [if_neg c_77] at hf
        refine lv_aload_n hx hb dX3_begin_80 rfl (lv_at hl 0 rfl) ?_
        refine lv_iload_n hx hb dX3_begin_81 rfl (lv_at hl 1 rfl) ?_
        refine lv_aload_n hx hb dX3_begin_82 rfl (lv_at hl 0 rfl) ?_
        refine va_get (D := D) (ci := 2) (v := .ref (ad 2)) (C := RX3) (T := TX3) (N := 13) hx hb hts in_X3_begin_X3 hown hK hP 5 (wC_5 _ _ _ _ _) rfl 1 (by decide) (hts (.fieldLink RX3 31 "CallGraphs$Graph" "members" "LCallGraphs$Members;") (List.mem_of_getElem? (i := 1) rfl)) (fun _ h9 => h9) (fC_5_1 _ _) dX3_begin_83 ?_
        refine lv_iload hx hb dX3_begin_86 (lv_at hl 4 rfl) ?_
        obtain ⟨r_88, hg_88, hf⟩ := oc_e hf
        refine mV_ri (wd := wC ad cI cJ cZ) (σ := σ) (As := [.int v6]) (rest := [.int v1, .ref (ad 5)]) ⟨hx, hb, hml, hown, hts⟩ hK hP hD hS (c_X4_startOf l D ad cI cJ cZ σ v6 hg_88) (cwV 1 hts gX3_begin_X4_startOf rfl rfl rfl hd_X4_startOf ⟨Nat.le_trans (Nat.le_of_ble_eq_true rfl) hR.1, Nat.le_trans (Nat.le_of_ble_eq_true rfl) hR.2⟩) rfl (wC_2 _ _ _ _ _) rfl hl.1 rfl (Nat.le_of_ble_eq_true rfl) dX3_begin_88 (fun H locs hP hS => ?_)
        obtain ⟨r_91, hg_91, hf⟩ := oc_e hf
        refine mV_wv (wd := wC ad cI cJ cZ) (σ := σ) (As := [.int v1, .int r_88]) (rest := []) ⟨hx, hb, hml, hown, hts⟩ hK hP hD hS (c_X3_addCallee l D ad cI cJ cZ σ v1 r_88 hg_91) (cwV 2 hts gX3_begin_X3_addCallee rfl rfl rfl hd_X3_addCallee ⟨Nat.le_trans (Nat.le_of_ble_eq_true rfl) hR.1, Nat.le_trans (Nat.le_of_ble_eq_true rfl) hR.2⟩) rfl (wC_5 _ _ _ _ _) rfl hl.1 rfl (Nat.le_of_ble_eq_true rfl) dX3_begin_91 (fun H locs hP hS => ?_)
        exact w_X3_begin_94 hm hR hK hD (p_X3_begin_65 n) hk65 v1 v2 v3 v6 r_91 hf _ _ _ hP hS (lv_sub hl [0, 1, 2, 3, 4] rfl)
def p_X3_begin_52 (v1 : Int32) (v2 : Int32) (v3 : Int64) (σ : SS) : Option (SS) := os (sL σ 5 11 ((σ.2 5 11) ||| v3)) (fun s_59 => p_X3_begin_65 100000 v1 v2 v3 0 s_59)
set_option maxHeartbeats 4000000 in
set_option maxRecDepth 100000 in
theorem w_X3_begin_52 {p : Program} {l : Launch} {e : Env} {R : Room} {s : State} {m : MethodId} {args : Array Value} {below : List Frame} {meth : Method} {c : Code} {D : va_G} {ad : Nat → Nat} {cI cJ cZ : ClassId} {res : SS} (hm : mx p s m args meth c cX3_begin 7 none wsX3_begin RX3) (hR : 2 ≤ R.frames ∧ 42 ≤ R.locals) (hK : va_K D vwCl (tyw cI cJ cZ) s) (hD : ∀ σ, va_D (aC ad) (wC ad cI cJ cZ σ)) (v1 : Int32) (v2 : Int32) (v3 : Int64) (σ : SS) (hf : p_X3_begin_52 v1 v2 v3 σ = some res) (H : Heap) (locs : List Loc) (ls : Array Slot) (hP : va_P D vwCl (wC ad cI cJ cZ σ) H) (hS : va_S (aC ad) s.heap H locs) (hl : lv_has ls 7 [(0, .ref (ad 5)), (1, .int v1), (2, .int v2), (3, .long v3)]) : W p l e R s m args below meth c H locs 0 0 (MQ below (va_Qv (fun (u : SS) => u = res) (fun u t => va_P D vwCl (wC ad cI cJ cZ u) t.heap) (aC ad)) args s 0 0 (aC ad)) (F0 m 52 ls []) := by
  obtain ⟨hx, hb, hr, hml, hown, hts, hlk⟩ := id hm
  unfold p_X3_begin_52 at hf
  refine lv_aload_n hx hb dX3_begin_52 rfl (lv_at hl 0 rfl) ?_
  refine lv_dup hx hb dX3_begin_53 rfl ?_
  refine va_get (D := D) (ci := 2) (v := .long (σ.2 5 11)) (C := RX3) (T := TX3) (N := 13) hx hb hts in_X3_begin_X3 hown hK hP 5 (wC_5 _ _ _ _ _) rfl 11 (by decide) (hts (.fieldLink RX3 76 "CallGraphs$Graph" "begun" "J") (List.mem_of_getElem? (i := 3) rfl)) (fun _ h9 => h9) (fC_5_11 _ _) dX3_begin_54 ?_
  refine lv_lload_n hx hb dX3_begin_57 rfl (lv_at hl 3 rfl) ?_
  refine lv_lor hx hb dX3_begin_58 ?_
  refine va_put (D := D) (ci := 2) (v := .long ((σ.2 5 11) ||| v3)) (ty := .long) (C := RX3) (T := TX3) (N := 13) hx hb hts in_X3_begin_X3 tyX3 tyX3_ok nmX3 hown hK hP (hD _) hS 5 (wC_5 _ _ _ _ _) rfl 11 (by decide) (hts (.fieldLink RX3 76 "CallGraphs$Graph" "begun" "J") (List.mem_of_getElem? (i := 3) rfl)) (fun _ h9 => h9) rfl (tyX3_ok 11 (by decide)) rfl rfl (Nat.le_of_ble_eq_true rfl) dX3_begin_59 (fun H locs hP _ hS => ?_)
  have hP := wC_p5_11 hP
  obtain ⟨s_59, es_59, hf⟩ := os_e hf
  rw [← es_59] at hP
  refine lv_iconst (v := 0) hx hb dX3_begin_62 (by decide) ?_
  refine lv_istore (lv' := [(6, .int 0), (0, .ref (ad 5)), (1, .int v1), (2, .int v2), (3, .long v3)]) hx hb dX3_begin_63 hl (by decide) rfl (fun ls hl => ?_)
  exact w_X3_begin_65 hm hR hK hD 100000 v1 v2 v3 0 s_59 hf _ _ _ hP hS (lv_sub hl [1, 2, 3, 4, 0] rfl)
def p_X3_begin_15 : Nat → Int32 → Int32 → Int64 → Int32 → Int32 → SS → Option (SS)
  | 0, _, _, _, _, _, _ => none
  | n + 1, v1, v2, v3, v5, v6, σ => let k15 := p_X3_begin_15 n; if 16 ≤ v6 then p_X3_begin_52 v1 v2 v3 σ else if v5 = (-1) then p_X3_begin_52 v1 v2 v3 σ else oc (p_X0_with_0 v3 v5) (fun r_31 => oc (p_X6_superOf_0 σ v5) (fun r_41 => k15 v1 v2 r_31 r_41 (v6 + 1) σ))
set_option maxHeartbeats 4000000 in
set_option maxRecDepth 100000 in
theorem w_X3_begin_15 {p : Program} {l : Launch} {e : Env} {R : Room} {s : State} {m : MethodId} {args : Array Value} {below : List Frame} {meth : Method} {c : Code} {D : va_G} {ad : Nat → Nat} {cI cJ cZ : ClassId} {res : SS} (hm : mx p s m args meth c cX3_begin 7 none wsX3_begin RX3) (hR : 2 ≤ R.frames ∧ 42 ≤ R.locals) (hK : va_K D vwCl (tyw cI cJ cZ) s) (hD : ∀ σ, va_D (aC ad) (wC ad cI cJ cZ σ)) : ∀ (n : Nat) (v1 : Int32) (v2 : Int32) (v3 : Int64) (v5 : Int32) (v6 : Int32) (σ : SS), p_X3_begin_15 n v1 v2 v3 v5 v6 σ = some res → ∀ (H : Heap) (locs : List Loc) (ls : Array Slot), va_P D vwCl (wC ad cI cJ cZ σ) H → va_S (aC ad) s.heap H locs → lv_has ls 7 [(0, .ref (ad 5)), (1, .int v1), (2, .int v2), (3, .long v3), (5, .int v5), (6, .int v6)] → W p l e R s m args below meth c H locs 0 0 (MQ below (va_Qv (fun (u : SS) => u = res) (fun u t => va_P D vwCl (wC ad cI cJ cZ u) t.heap) (aC ad)) args s 0 0 (aC ad)) (F0 m 15 ls []) := by
  obtain ⟨hx, hb, hr, hml, hown, hts, hlk⟩ := id hm
  intro n
  induction n with
  | zero =>
    intro _ _ _ _ _ _ hf
    cases hf
  | succ n hk15 =>
    intro v1 v2 v3 v5 v6 σ hf H locs ls hP hS hl
    rw [p_X3_begin_15] at hf
    try dsimp only at hf
    refine lv_iload hx hb dX3_begin_15 (lv_at hl 5 rfl) ?_
    refine lv_bipush (v := 16) hx hb dX3_begin_17 (by decide) ?_
    refine lv_icmp_ge (tgt := 52) hx hb dX3_begin_19 (by decide) (fun c_19 => ?_) (fun c_19 => ?_)
    · rw [if_pos c_19] at hf
      exact w_X3_begin_52 hm hR hK hD v1 v2 v3 σ hf _ _ _ hP hS (lv_sub hl [0, 1, 2, 3] rfl)
    · rw [if_neg c_19] at hf
      refine lv_iload hx hb dX3_begin_22 (lv_at hl 4 rfl) ?_
      refine lv_iconst (v := (-1)) hx hb dX3_begin_24 (by decide) ?_
      refine lv_icmp_eq (tgt := 52) hx hb dX3_begin_25 (by decide) (fun c_25 => ?_) (fun c_25 => ?_)
      · rw [if_pos c_25] at hf
        exact w_X3_begin_52 hm hR hK hD v1 v2 v3 σ hf _ _ _ hP hS (lv_sub hl [0, 1, 2, 3] rfl)
      · rw [if_neg c_25] at hf
        refine lv_lload_n hx hb dX3_begin_28 rfl (lv_at hl 3 rfl) ?_
        refine lv_iload hx hb dX3_begin_29 (lv_at hl 4 rfl) ?_
        obtain ⟨r_31, hg_31, hf⟩ := oc_e hf
        refine mS_l (D := D) (As := [.long v3, .int v5]) (rest := []) ⟨hx, hb, hml, hown, hts⟩ hP hS (c_X0_with l v3 v5 hg_31) (va_cwS 2 hts gX3_begin_X0_with rfl rfl rfl hd_X0_with ⟨Nat.le_trans (Nat.le_of_ble_eq_true rfl) hR.1, Nat.le_trans (Nat.le_of_ble_eq_true rfl) hR.2⟩) rfl hl.1 rfl (Nat.le_of_ble_eq_true rfl) dX3_begin_31 (fun H locs hP hS => ?_)
        refine lv_lstore_n (lv' := [(3, .long r_31), (0, .ref (ad 5)), (1, .int v1), (2, .int v2), (5, .int v5), (6, .int v6)]) hx hb dX3_begin_34 rfl hl (by decide) rfl (fun ls hl => ?_)
        refine lv_aload_n hx hb dX3_begin_35 rfl (lv_at hl 1 rfl) ?_
        refine va_get (D := D) (ci := 2) (v := .ref (ad 1)) (C := RX3) (T := TX3) (N := 13) hx hb hts in_X3_begin_X3 hown hK hP 5 (wC_5 _ _ _ _ _) rfl 0 (by decide) (hts (.fieldLink RX3 27 "CallGraphs$Graph" "types" "LCallGraphs$Types;") (List.mem_of_getElem? (i := 2) rfl)) (fun _ h9 => h9) (fC_5_0 _ _) dX3_begin_36 ?_
        refine lv_iload hx hb dX3_begin_39 (lv_at hl 4 rfl) ?_
        obtain ⟨r_41, hg_41, hf⟩ := oc_e hf
        refine mV_ri (wd := wC ad cI cJ cZ) (σ := σ) (As := [.int v5]) (rest := []) ⟨hx, hb, hml, hown, hts⟩ hK hP hD hS (c_X6_superOf l D ad cI cJ cZ σ v5 hg_41) (cwV 1 hts gX3_begin_X6_superOf rfl rfl rfl hd_X6_superOf ⟨Nat.le_trans (Nat.le_of_ble_eq_true rfl) hR.1, Nat.le_trans (Nat.le_of_ble_eq_true rfl) hR.2⟩) rfl (wC_1 _ _ _ _ _) rfl hl.1 rfl (Nat.le_of_ble_eq_true rfl) dX3_begin_41 (fun H locs hP hS => ?_)
        refine lv_istore (lv' := [(5, .int r_41), (3, .long r_31), (0, .ref (ad 5)), (1, .int v1), (2, .int v2), (6, .int v6)]) hx hb dX3_begin_44 hl (by decide) rfl (fun ls hl => ?_)
        refine lv_iinc (v := (v6 + 1)) (lv' := [(6, .int (v6 + 1)), (5, .int r_41), (3, .long r_31), (0, .ref (ad 5)), (1, .int v1), (2, .int v2)]) hx hb dX3_begin_46 hl (k := 5) rfl rfl (by decide) rfl (fun ls hl => ?_)
        refine lv_goto (tgt := 15) hx hb dX3_begin_49 (by decide) ?_
        exact hk15 v1 v2 r_31 r_41 (v6 + 1) σ hf _ _ _ hP hS (lv_sub hl [3, 4, 5, 2, 1, 0] rfl)
def p_X3_begin_0 (v1 : Int32) (v2 : Int32) (σ : SS) : Option (SS) := oc (p_X4_facesBegunWith_0 σ v2) (fun r_5 => p_X3_begin_15 100000 v1 v2 r_5 v2 0 σ)
set_option maxHeartbeats 4000000 in
set_option maxRecDepth 100000 in
theorem w_X3_begin_0 {p : Program} {l : Launch} {e : Env} {R : Room} {s : State} {m : MethodId} {args : Array Value} {below : List Frame} {meth : Method} {c : Code} {D : va_G} {ad : Nat → Nat} {cI cJ cZ : ClassId} {res : SS} (hm : mx p s m args meth c cX3_begin 7 none wsX3_begin RX3) (hR : 2 ≤ R.frames ∧ 42 ≤ R.locals) (hK : va_K D vwCl (tyw cI cJ cZ) s) (hD : ∀ σ, va_D (aC ad) (wC ad cI cJ cZ σ)) (v1 : Int32) (v2 : Int32) (σ : SS) (hf : p_X3_begin_0 v1 v2 σ = some res) (H : Heap) (locs : List Loc) (ls : Array Slot) (hP : va_P D vwCl (wC ad cI cJ cZ σ) H) (hS : va_S (aC ad) s.heap H locs) (hl : lv_has ls 7 [(0, .ref (ad 5)), (1, .int v1), (2, .int v2)]) : W p l e R s m args below meth c H locs 0 0 (MQ below (va_Qv (fun (u : SS) => u = res) (fun u t => va_P D vwCl (wC ad cI cJ cZ u) t.heap) (aC ad)) args s 0 0 (aC ad)) (F0 m 0 ls []) := by
  obtain ⟨hx, hb, hr, hml, hown, hts, hlk⟩ := id hm
  unfold p_X3_begin_0 at hf
  refine lv_aload_n hx hb dX3_begin_0 rfl (lv_at hl 0 rfl) ?_
  refine va_get (D := D) (ci := 2) (v := .ref (ad 2)) (C := RX3) (T := TX3) (N := 13) hx hb hts in_X3_begin_X3 hown hK hP 5 (wC_5 _ _ _ _ _) rfl 1 (by decide) (hts (.fieldLink RX3 31 "CallGraphs$Graph" "members" "LCallGraphs$Members;") (List.mem_of_getElem? (i := 1) rfl)) (fun _ h9 => h9) (fC_5_1 _ _) dX3_begin_1 ?_
  refine lv_iload_n hx hb dX3_begin_4 rfl (lv_at hl 2 rfl) ?_
  obtain ⟨r_5, hg_5, hf⟩ := oc_e hf
  refine mV_rl (wd := wC ad cI cJ cZ) (σ := σ) (As := [.int v2]) (rest := []) ⟨hx, hb, hml, hown, hts⟩ hK hP hD hS (c_X4_facesBegunWith l D ad cI cJ cZ σ v2 hg_5) (cwV 1 hts gX3_begin_X4_facesBegunWith rfl rfl rfl hd_X4_facesBegunWith ⟨Nat.le_trans (Nat.le_of_ble_eq_true rfl) hR.1, Nat.le_trans (Nat.le_of_ble_eq_true rfl) hR.2⟩) rfl (wC_2 _ _ _ _ _) rfl hl.1 rfl (Nat.le_of_ble_eq_true rfl) dX3_begin_5 (fun H locs hP hS => ?_)
  refine lv_lstore_n (lv' := [(3, .long r_5), (0, .ref (ad 5)), (1, .int v1), (2, .int v2)]) hx hb dX3_begin_8 rfl hl (by decide) rfl (fun ls hl => ?_)
  refine lv_iload_n hx hb dX3_begin_9 rfl (lv_at hl 3 rfl) ?_
  refine lv_istore (lv' := [(5, .int v2), (3, .long r_5), (0, .ref (ad 5)), (1, .int v1), (2, .int v2)]) hx hb dX3_begin_10 hl (by decide) rfl (fun ls hl => ?_)
  refine lv_iconst (v := 0) hx hb dX3_begin_12 (by decide) ?_
  refine lv_istore (lv' := [(6, .int 0), (5, .int v2), (3, .long r_5), (0, .ref (ad 5)), (1, .int v1), (2, .int v2)]) hx hb dX3_begin_13 hl (by decide) rfl (fun ls hl => ?_)
  exact w_X3_begin_15 hm hR hK hD 100000 v1 v2 r_5 v2 0 σ hf _ _ _ hP hS (lv_sub hl [3, 4, 5, 2, 1, 0] rfl)
theorem hd_X3_begin : yX3_begin.cls = RX3 ∧ yX3_begin.cls ≠ "java/lang/invoke/MethodHandle" ∧ yX3_begin.cls ≠ "java/lang/invoke/VarHandle" ∧ (parseMethodDescriptor yX3_begin.desc).map (fun d => d.parameters.length) = some 2 := by decide +kernel
set_option maxHeartbeats 4000000 in
set_option maxRecDepth 100000 in
theorem c_X3_begin (l : Launch) (D : va_G) (ad : Nat → Nat) (cI cJ cZ : ClassId) (σ : SS) (v1 : Int32) (v2 : Int32) {res : SS} (hf : p_X3_begin_0 v1 v2 σ = some res) : Met l yX3_begin wsX3_begin ({ frames := 2, cells := 0, slots := 0, locals := 42 } : Room) (PW D (tyw cI cJ cZ) (wC ad cI cJ cZ σ) [.ref (ad 5), .int v1, .int v2]) (va_Qv (fun (u : SS) => u = res) (fun u t => va_P D vwCl (wC ad cI cJ cZ u) t.heap) (aC ad)) 0 0 (aC ad) := by
  refine Met.ofW (cc := cX3_begin) (maxL := 7) (ret := none) (by decide) rfl ?_
  intro p e s m args below meth c s₁ B hml hv
  obtain ⟨rfl, hP, hK, hD0⟩ := hv
  have hD : ∀ σ, va_D (aC ad) (wC ad cI cJ cZ σ) := fun σ => wd_D hD0 (wC_map _ _ _ _ _) (wC_map _ _ _ _ _)
  have hm : mx p s m _ meth c cX3_begin 7 none wsX3_begin RX3 := ⟨B.exec, B.bytes, B.returns, hml, findClass_of_methodNamed B.named, atoms_spec (ws := wsX3_begin) B.pre, B.notSynchronized⟩
  have hl := lv_entry ([.ref (ad 5), .int v1, .int v2]) (n := 7) (Nat.le_of_ble_eq_true rfl)
  rw [lg_entry_eq]
  generalize (lg_sl ([.ref (ad 5), .int v1, .int v2]) ++ List.replicate (7 - (lg_sl ([.ref (ad 5), .int v1, .int v2])).length) Slot.unset).toArray = ls at hl ⊢
  exact w_X3_begin_0 hm ⟨Nat.le_refl _, Nat.le_refl _⟩ hK hD v1 v2 σ hf _ _ _ hP va_S.rf hl
/-! CallGraphs$Graph.serveMade(III)V -/
theorem in_X3_serveMade_X3 : ∀ w ∈ u_ws RX3 TX3 13, w ∈ wsX3_serveMade := fun w h => List.mem_cons_of_mem _ (List.mem_append_left _ (List.mem_append_left _ (List.mem_append_left _ (List.mem_append_right _ h))))
def p_X3_serveMade_59 (k3 : Int32 → Int32 → Int32 → Int32 → SS → Option (SS)) (v1 : Int32) (v2 : Int32) (v3 : Int32) (v4 : Int32) (σ : SS) : Option (SS) := k3 v1 v2 v3 (v4 + 1) σ
set_option maxHeartbeats 4000000 in
set_option maxRecDepth 100000 in
theorem w_X3_serveMade_59 {p : Program} {l : Launch} {e : Env} {R : Room} {s : State} {m : MethodId} {args : Array Value} {below : List Frame} {meth : Method} {c : Code} {D : va_G} {ad : Nat → Nat} {cI cJ cZ : ClassId} {res : SS} (hm : mx p s m args meth c cX3_serveMade 5 none wsX3_serveMade RX3) (hR : 2 ≤ R.frames ∧ 46 ≤ R.locals) (hK : va_K D vwCl (tyw cI cJ cZ) s) (hD : ∀ σ, va_D (aC ad) (wC ad cI cJ cZ σ)) (k3 : Int32 → Int32 → Int32 → Int32 → SS → Option (SS)) (hk3 : ∀ (v1 : Int32) (v2 : Int32) (v3 : Int32) (v4 : Int32) (σ : SS), k3 v1 v2 v3 v4 σ = some res → ∀ (H : Heap) (locs : List Loc) (ls : Array Slot), va_P D vwCl (wC ad cI cJ cZ σ) H → va_S (aC ad) s.heap H locs → lv_has ls 5 [(0, .ref (ad 5)), (1, .int v1), (2, .int v2), (3, .int v3), (4, .int v4)] → W p l e R s m args below meth c H locs 0 0 (MQ below (va_Qv (fun (u : SS) => u = res) (fun u t => va_P D vwCl (wC ad cI cJ cZ u) t.heap) (aC ad)) args s 0 0 (aC ad)) (F0 m 3 ls [])) (v1 : Int32) (v2 : Int32) (v3 : Int32) (v4 : Int32) (σ : SS) (hf : p_X3_serveMade_59 k3 v1 v2 v3 v4 σ = some res) (H : Heap) (locs : List Loc) (ls : Array Slot) (hP : va_P D vwCl (wC ad cI cJ cZ σ) H) (hS : va_S (aC ad) s.heap H locs) (hl : lv_has ls 5 [(0, .ref (ad 5)), (1, .int v1), (2, .int v2), (3, .int v3), (4, .int v4)]) : W p l e R s m args below meth c H locs 0 0 (MQ below (va_Qv (fun (u : SS) => u = res) (fun u t => va_P D vwCl (wC ad cI cJ cZ u) t.heap) (aC ad)) args s 0 0 (aC ad)) (F0 m 59 ls []) := by
  obtain ⟨hx, hb, hr, hml, hown, hts, hlk⟩ := id hm
  unfold p_X3_serveMade_59 at hf
  refine lv_iinc (v := (v4 + 1)) (lv' := [(4, .int (v4 + 1)), (0, .ref (ad 5)), (1, .int v1), (2, .int v2), (3, .int v3)]) hx hb dX3_serveMade_59 hl (k := 4) rfl rfl (by decide) rfl (fun ls hl => ?_)
  refine lv_goto (tgt := 3) hx hb dX3_serveMade_62 (by decide) ?_
  exact hk3 v1 v2 v3 (v4 + 1) σ hf _ _ _ hP hS (lv_sub hl [1, 2, 3, 4, 0] rfl)
def p_X3_serveMade_3 : Nat → Int32 → Int32 → Int32 → Int32 → SS → Option (SS)
  | 0, _, _, _, _, _ => none
  | n + 1, v1, v2, v3, v4, σ => let k3 := p_X3_serveMade_3 n; oc (p_X6_size_0 σ) (fun r_9 => if r_9 ≤ v4 then some σ else oc (p_X0_has_0 (σ.2 5 10) v4) (fun r_21 => if r_21 = 0 then p_X3_serveMade_59 k3 v1 v2 v3 v4 σ else oc (p_X6_isUnder_0 σ v4 v2) (fun r_34 => if r_34 = 0 then p_X3_serveMade_59 k3 v1 v2 v3 v4 σ else oc (p_X1_choose_0 σ v4 v2 v3) (fun r_53 => oc (p_X3_addCallee_0 v1 r_53 σ) (fun r_56 => p_X3_serveMade_59 k3 v1 v2 v3 v4 r_56)))))
set_option maxHeartbeats 4000000 in
set_option maxRecDepth 100000 in
theorem w_X3_serveMade_3 {p : Program} {l : Launch} {e : Env} {R : Room} {s : State} {m : MethodId} {args : Array Value} {below : List Frame} {meth : Method} {c : Code} {D : va_G} {ad : Nat → Nat} {cI cJ cZ : ClassId} {res : SS} (hm : mx p s m args meth c cX3_serveMade 5 none wsX3_serveMade RX3) (hR : 2 ≤ R.frames ∧ 46 ≤ R.locals) (hK : va_K D vwCl (tyw cI cJ cZ) s) (hD : ∀ σ, va_D (aC ad) (wC ad cI cJ cZ σ)) : ∀ (n : Nat) (v1 : Int32) (v2 : Int32) (v3 : Int32) (v4 : Int32) (σ : SS), p_X3_serveMade_3 n v1 v2 v3 v4 σ = some res → ∀ (H : Heap) (locs : List Loc) (ls : Array Slot), va_P D vwCl (wC ad cI cJ cZ σ) H → va_S (aC ad) s.heap H locs → lv_has ls 5 [(0, .ref (ad 5)), (1, .int v1), (2, .int v2), (3, .int v3), (4, .int v4)] → W p l e R s m args below meth c H locs 0 0 (MQ below (va_Qv (fun (u : SS) => u = res) (fun u t => va_P D vwCl (wC ad cI cJ cZ u) t.heap) (aC ad)) args s 0 0 (aC ad)) (F0 m 3 ls []) := by
  obtain ⟨hx, hb, hr, hml, hown, hts, hlk⟩ := id hm
  intro n
  induction n with
  | zero =>
    intro _ _ _ _ _ hf
    cases hf
  | succ n hk3 =>
    intro v1 v2 v3 v4 σ hf H locs ls hP hS hl
    rw [p_X3_serveMade_3] at hf
    try dsimp only at hf
    refine lv_iload hx hb dX3_serveMade_3 (lv_at hl 4 rfl) ?_
    refine lv_aload_n hx hb dX3_serveMade_5 rfl (lv_at hl 0 rfl) ?_
    refine va_get (D := D) (ci := 2) (v := .ref (ad 1)) (C := RX3) (T := TX3) (N := 13) hx hb hts in_X3_serveMade_X3 hown hK hP 5 (wC_5 _ _ _ _ _) rfl 0 (by decide) (hts (.fieldLink RX3 27 "CallGraphs$Graph" "types" "LCallGraphs$Types;") (List.mem_of_getElem? (i := 1) rfl)) (fun _ h9 => h9) (fC_5_0 _ _) dX3_serveMade_6 ?_
    obtain ⟨r_9, hg_9, hf⟩ := oc_e hf
    refine mV_ri (wd := wC ad cI cJ cZ) (σ := σ) (As := []) (rest := [.int v4]) ⟨hx, hb, hml, hown, hts⟩ hK hP hD hS (c_X6_size l D ad cI cJ cZ σ hg_9) (cwV 0 hts gX3_serveMade_X6_size rfl rfl rfl hd_X6_size ⟨Nat.le_trans (Nat.le_of_ble_eq_true rfl) hR.1, Nat.le_trans (Nat.le_of_ble_eq_true rfl) hR.2⟩) rfl (wC_1 _ _ _ _ _) rfl hl.1 rfl (Nat.le_of_ble_eq_true rfl) dX3_serveMade_9 (fun H locs hP hS => ?_)
    refine lv_icmp_ge (tgt := 65) hx hb dX3_serveMade_12 (by decide) (fun c_12 => ?_) (fun c_12 => ?_)
    · rw [if_pos c_12] at hf
      exact rt_v (wd := wC ad cI cJ cZ) hx hb hr hlk (Option.some.inj hf) hP hS dX3_serveMade_65
    · rw [if_neg c_12] at hf
      refine lv_aload_n hx hb dX3_serveMade_15 rfl (lv_at hl 0 rfl) ?_
      refine va_get (D := D) (ci := 2) (v := .long (σ.2 5 10)) (C := RX3) (T := TX3) (N := 13) hx hb hts in_X3_serveMade_X3 hown hK hP 5 (wC_5 _ _ _ _ _) rfl 10 (by decide) (hts (.fieldLink RX3 73 "CallGraphs$Graph" "made" "J") (List.mem_of_getElem? (i := 2) rfl)) (fun _ h9 => h9) (fC_5_10 _ _) dX3_serveMade_16 ?_
      refine lv_iload hx hb dX3_serveMade_19 (lv_at hl 4 rfl) ?_
      obtain ⟨r_21, hg_21, hf⟩ := oc_e hf
      refine mS_i (D := D) (As := [.long (σ.2 5 10), .int v4]) (rest := []) ⟨hx, hb, hml, hown, hts⟩ hP hS (c_X0_has l (σ.2 5 10) v4 hg_21) (va_cwS 2 hts gX3_serveMade_X0_has rfl rfl rfl hd_X0_has ⟨Nat.le_trans (Nat.le_of_ble_eq_true rfl) hR.1, Nat.le_trans (Nat.le_of_ble_eq_true rfl) hR.2⟩) rfl hl.1 rfl (Nat.le_of_ble_eq_true rfl) dX3_serveMade_21 (fun H locs hP hS => ?_)
      refine lv_if_eq (tgt := 59) hx hb dX3_serveMade_24 (by decide) (fun c_24 => ?_) (fun c_24 => ?_)
      · rw [if_pos c_24] at hf
        exact w_X3_serveMade_59 hm hR hK hD (p_X3_serveMade_3 n) hk3 v1 v2 v3 v4 σ hf _ _ _ hP hS (lv_sub hl [0, 1, 2, 3, 4] rfl)
      · rw [if_neg c_24] at hf
        refine lv_aload_n hx hb dX3_serveMade_27 rfl (lv_at hl 0 rfl) ?_
        refine va_get (D := D) (ci := 2) (v := .ref (ad 1)) (C := RX3) (T := TX3) (N := 13) hx hb hts in_X3_serveMade_X3 hown hK hP 5 (wC_5 _ _ _ _ _) rfl 0 (by decide) (hts (.fieldLink RX3 27 "CallGraphs$Graph" "types" "LCallGraphs$Types;") (List.mem_of_getElem? (i := 1) rfl)) (fun _ h9 => h9) (fC_5_0 _ _) dX3_serveMade_28 ?_
        refine lv_iload hx hb dX3_serveMade_31 (lv_at hl 4 rfl) ?_
        refine lv_iload_n hx hb dX3_serveMade_33 rfl (lv_at hl 2 rfl) ?_
        obtain ⟨r_34, hg_34, hf⟩ := oc_e hf
        refine mV_ri (wd := wC ad cI cJ cZ) (σ := σ) (As := [.int v4, .int v2]) (rest := []) ⟨hx, hb, hml, hown, hts⟩ hK hP hD hS (c_X6_isUnder l D ad cI cJ cZ σ v4 v2 hg_34) (cwV 2 hts gX3_serveMade_X6_isUnder rfl rfl rfl hd_X6_isUnder ⟨Nat.le_trans (Nat.le_of_ble_eq_true rfl) hR.1, Nat.le_trans (Nat.le_of_ble_eq_true rfl) hR.2⟩) rfl (wC_1 _ _ _ _ _) rfl hl.1 rfl (Nat.le_of_ble_eq_true rfl) dX3_serveMade_34 (fun H locs hP hS => ?_)
        refine lv_if_ne (tgt := 43) hx hb dX3_serveMade_37 (by decide) (fun c_37 => ?_) (fun c_37 => ?_)
        · rw [if_neg c_37] at hf
          refine lv_aload_n hx hb dX3_serveMade_43 rfl (lv_at hl 0 rfl) ?_
          refine lv_iload_n hx hb dX3_serveMade_44 rfl (lv_at hl 1 rfl) ?_
          refine lv_aload_n hx hb dX3_serveMade_45 rfl (lv_at hl 0 rfl) ?_
          refine va_get (D := D) (ci := 2) (v := .ref (ad 3)) (C := RX3) (T := TX3) (N := 13) hx hb hts in_X3_serveMade_X3 hown hK hP 5 (wC_5 _ _ _ _ _) rfl 2 (by decide) (hts (.fieldLink RX3 35 "CallGraphs$Graph" "choices" "LCallGraphs$Choices;") (List.mem_of_getElem? (i := 3) rfl)) (fun _ h9 => h9) (fC_5_2 _ _) dX3_serveMade_46 ?_
          refine lv_iload hx hb dX3_serveMade_49 (lv_at hl 4 rfl) ?_
          refine lv_iload_n hx hb dX3_serveMade_51 rfl (lv_at hl 2 rfl) ?_
          refine lv_iload_n hx hb dX3_serveMade_52 rfl (lv_at hl 3 rfl) ?_
          obtain ⟨r_53, hg_53, hf⟩ := oc_e hf
          refine mV_ri (wd := wC ad cI cJ cZ) (σ := σ) (As := [.int v4, .int v2, .int v3]) (rest := [.int v1, .ref (ad 5)]) ⟨hx, hb, hml, hown, hts⟩ hK hP hD hS (c_X1_choose l D ad cI cJ cZ σ v4 v2 v3 hg_53) (cwV 3 hts gX3_serveMade_X1_choose rfl rfl rfl hd_X1_choose ⟨Nat.le_trans (Nat.le_of_ble_eq_true rfl) hR.1, Nat.le_trans (Nat.le_of_ble_eq_true rfl) hR.2⟩) rfl (wC_3 _ _ _ _ _) rfl hl.1 rfl (Nat.le_of_ble_eq_true rfl) dX3_serveMade_53 (fun H locs hP hS => ?_)
          obtain ⟨r_56, hg_56, hf⟩ := oc_e hf
          refine mV_wv (wd := wC ad cI cJ cZ) (σ := σ) (As := [.int v1, .int r_53]) (rest := []) ⟨hx, hb, hml, hown, hts⟩ hK hP hD hS (c_X3_addCallee l D ad cI cJ cZ σ v1 r_53 hg_56) (cwV 2 hts gX3_serveMade_X3_addCallee rfl rfl rfl hd_X3_addCallee ⟨Nat.le_trans (Nat.le_of_ble_eq_true rfl) hR.1, Nat.le_trans (Nat.le_of_ble_eq_true rfl) hR.2⟩) rfl (wC_5 _ _ _ _ _) rfl hl.1 rfl (Nat.le_of_ble_eq_true rfl) dX3_serveMade_56 (fun H locs hP hS => ?_)
          exact w_X3_serveMade_59 hm hR hK hD (p_X3_serveMade_3 n) hk3 v1 v2 v3 v4 r_56 hf _ _ _ hP hS (lv_sub hl [0, 1, 2, 3, 4] rfl)
        · rw [if_pos c_37] at hf
          refine lv_goto (tgt := 59) hx hb dX3_serveMade_40 (by decide) ?_
          exact w_X3_serveMade_59 hm hR hK hD (p_X3_serveMade_3 n) hk3 v1 v2 v3 v4 σ hf _ _ _ hP hS (lv_sub hl [0, 1, 2, 3, 4] rfl)
def p_X3_serveMade_0 (v1 : Int32) (v2 : Int32) (v3 : Int32) (σ : SS) : Option (SS) := p_X3_serveMade_3 100000 v1 v2 v3 0 σ
set_option maxHeartbeats 4000000 in
set_option maxRecDepth 100000 in
theorem w_X3_serveMade_0 {p : Program} {l : Launch} {e : Env} {R : Room} {s : State} {m : MethodId} {args : Array Value} {below : List Frame} {meth : Method} {c : Code} {D : va_G} {ad : Nat → Nat} {cI cJ cZ : ClassId} {res : SS} (hm : mx p s m args meth c cX3_serveMade 5 none wsX3_serveMade RX3) (hR : 2 ≤ R.frames ∧ 46 ≤ R.locals) (hK : va_K D vwCl (tyw cI cJ cZ) s) (hD : ∀ σ, va_D (aC ad) (wC ad cI cJ cZ σ)) (v1 : Int32) (v2 : Int32) (v3 : Int32) (σ : SS) (hf : p_X3_serveMade_0 v1 v2 v3 σ = some res) (H : Heap) (locs : List Loc) (ls : Array Slot) (hP : va_P D vwCl (wC ad cI cJ cZ σ) H) (hS : va_S (aC ad) s.heap H locs) (hl : lv_has ls 5 [(0, .ref (ad 5)), (1, .int v1), (2, .int v2), (3, .int v3)]) : W p l e R s m args below meth c H locs 0 0 (MQ below (va_Qv (fun (u : SS) => u = res) (fun u t => va_P D vwCl (wC ad cI cJ cZ u) t.heap) (aC ad)) args s 0 0 (aC ad)) (F0 m 0 ls []) := by
  obtain ⟨hx, hb, hr, hml, hown, hts, hlk⟩ := id hm
  unfold p_X3_serveMade_0 at hf
  refine lv_iconst (v := 0) hx hb dX3_serveMade_0 (by decide) ?_
  refine lv_istore (lv' := [(4, .int 0), (0, .ref (ad 5)), (1, .int v1), (2, .int v2), (3, .int v3)]) hx hb dX3_serveMade_1 hl (by decide) rfl (fun ls hl => ?_)
  exact w_X3_serveMade_3 hm hR hK hD 100000 v1 v2 v3 0 σ hf _ _ _ hP hS (lv_sub hl [1, 2, 3, 4, 0] rfl)
theorem hd_X3_serveMade : yX3_serveMade.cls = RX3 ∧ yX3_serveMade.cls ≠ "java/lang/invoke/MethodHandle" ∧ yX3_serveMade.cls ≠ "java/lang/invoke/VarHandle" ∧ (parseMethodDescriptor yX3_serveMade.desc).map (fun d => d.parameters.length) = some 3 := by decide +kernel
set_option maxHeartbeats 4000000 in
set_option maxRecDepth 100000 in
theorem c_X3_serveMade (l : Launch) (D : va_G) (ad : Nat → Nat) (cI cJ cZ : ClassId) (σ : SS) (v1 : Int32) (v2 : Int32) (v3 : Int32) {res : SS} (hf : p_X3_serveMade_0 v1 v2 v3 σ = some res) : Met l yX3_serveMade wsX3_serveMade ({ frames := 2, cells := 0, slots := 0, locals := 46 } : Room) (PW D (tyw cI cJ cZ) (wC ad cI cJ cZ σ) [.ref (ad 5), .int v1, .int v2, .int v3]) (va_Qv (fun (u : SS) => u = res) (fun u t => va_P D vwCl (wC ad cI cJ cZ u) t.heap) (aC ad)) 0 0 (aC ad) := by
  refine Met.ofW (cc := cX3_serveMade) (maxL := 5) (ret := none) (by decide) rfl ?_
  intro p e s m args below meth c s₁ B hml hv
  obtain ⟨rfl, hP, hK, hD0⟩ := hv
  have hD : ∀ σ, va_D (aC ad) (wC ad cI cJ cZ σ) := fun σ => wd_D hD0 (wC_map _ _ _ _ _) (wC_map _ _ _ _ _)
  have hm : mx p s m _ meth c cX3_serveMade 5 none wsX3_serveMade RX3 := ⟨B.exec, B.bytes, B.returns, hml, findClass_of_methodNamed B.named, atoms_spec (ws := wsX3_serveMade) B.pre, B.notSynchronized⟩
  have hl := lv_entry ([.ref (ad 5), .int v1, .int v2, .int v3]) (n := 5) (Nat.le_of_ble_eq_true rfl)
  rw [lg_entry_eq]
  generalize (lg_sl ([.ref (ad 5), .int v1, .int v2, .int v3]) ++ List.replicate (5 - (lg_sl ([.ref (ad 5), .int v1, .int v2, .int v3])).length) Slot.unset).toArray = ls at hl ⊢
  exact w_X3_serveMade_0 hm ⟨Nat.le_refl _, Nat.le_refl _⟩ hK hD v1 v2 v3 σ hf _ _ _ hP va_S.rf hl
/-! CallGraphs$Graph.serveStatic(II)V -/
theorem in_X3_serveStatic_X3 : ∀ w ∈ u_ws RX3 TX3 13, w ∈ wsX3_serveStatic := fun w h => List.mem_cons_of_mem _ (List.mem_append_left _ (List.mem_append_left _ (List.mem_append_right _ h)))
def p_X3_serveStatic_0 (v1 : Int32) (v2 : Int32) (σ : SS) : Option (SS) := if 0 ≤ v2 then oc (p_X3_addCallee_0 v1 v2 σ) (fun r_8 => oc (p_X4_typeOf_0 r_8 v2) (fun r_18 => oc (p_X3_begin_0 v1 r_18 r_8) (fun r_21 => some r_21))) else some σ
set_option maxHeartbeats 4000000 in
set_option maxRecDepth 100000 in
theorem w_X3_serveStatic_0 {p : Program} {l : Launch} {e : Env} {R : Room} {s : State} {m : MethodId} {args : Array Value} {below : List Frame} {meth : Method} {c : Code} {D : va_G} {ad : Nat → Nat} {cI cJ cZ : ClassId} {res : SS} (hm : mx p s m args meth c cX3_serveStatic 3 none wsX3_serveStatic RX3) (hR : 3 ≤ R.frames ∧ 68 ≤ R.locals) (hK : va_K D vwCl (tyw cI cJ cZ) s) (hD : ∀ σ, va_D (aC ad) (wC ad cI cJ cZ σ)) (v1 : Int32) (v2 : Int32) (σ : SS) (hf : p_X3_serveStatic_0 v1 v2 σ = some res) (H : Heap) (locs : List Loc) (ls : Array Slot) (hP : va_P D vwCl (wC ad cI cJ cZ σ) H) (hS : va_S (aC ad) s.heap H locs) (hl : lv_has ls 3 [(0, .ref (ad 5)), (1, .int v1), (2, .int v2)]) : W p l e R s m args below meth c H locs 0 0 (MQ below (va_Qv (fun (u : SS) => u = res) (fun u t => va_P D vwCl (wC ad cI cJ cZ u) t.heap) (aC ad)) args s 0 0 (aC ad)) (F0 m 0 ls []) := by
  obtain ⟨hx, hb, hr, hml, hown, hts, hlk⟩ := id hm
  unfold p_X3_serveStatic_0 at hf
  refine lv_iload_n hx hb dX3_serveStatic_0 rfl (lv_at hl 2 rfl) ?_
  refine lv_if_ge (tgt := 5) hx hb dX3_serveStatic_1 (by decide) (fun c_1 => ?_) (fun c_1 => ?_)
  · rw [if_pos c_1] at hf
    refine lv_aload_n hx hb dX3_serveStatic_5 rfl (lv_at hl 0 rfl) ?_
    refine lv_iload_n hx hb dX3_serveStatic_6 rfl (lv_at hl 1 rfl) ?_
    refine lv_iload_n hx hb dX3_serveStatic_7 rfl (lv_at hl 2 rfl) ?_
    obtain ⟨r_8, hg_8, hf⟩ := oc_e hf
    refine mV_wv (wd := wC ad cI cJ cZ) (σ := σ) (As := [.int v1, .int v2]) (rest := []) ⟨hx, hb, hml, hown, hts⟩ hK hP hD hS (c_X3_addCallee l D ad cI cJ cZ σ v1 v2 hg_8) (cwV 2 hts gX3_serveStatic_X3_addCallee rfl rfl rfl hd_X3_addCallee ⟨Nat.le_trans (Nat.le_of_ble_eq_true rfl) hR.1, Nat.le_trans (Nat.le_of_ble_eq_true rfl) hR.2⟩) rfl (wC_5 _ _ _ _ _) rfl hl.1 rfl (Nat.le_of_ble_eq_true rfl) dX3_serveStatic_8 (fun H locs hP hS => ?_)
    refine lv_aload_n hx hb dX3_serveStatic_11 rfl (lv_at hl 0 rfl) ?_
    refine lv_iload_n hx hb dX3_serveStatic_12 rfl (lv_at hl 1 rfl) ?_
    refine lv_aload_n hx hb dX3_serveStatic_13 rfl (lv_at hl 0 rfl) ?_
    refine va_get (D := D) (ci := 2) (v := .ref (ad 2)) (C := RX3) (T := TX3) (N := 13) hx hb hts in_X3_serveStatic_X3 hown hK hP 5 (wC_5 _ _ _ _ _) rfl 1 (by decide) (hts (.fieldLink RX3 31 "CallGraphs$Graph" "members" "LCallGraphs$Members;") (List.mem_of_getElem? (i := 1) rfl)) (fun _ h9 => h9) (fC_5_1 _ _) dX3_serveStatic_14 ?_
    refine lv_iload_n hx hb dX3_serveStatic_17 rfl (lv_at hl 2 rfl) ?_
    obtain ⟨r_18, hg_18, hf⟩ := oc_e hf
    refine mV_ri (wd := wC ad cI cJ cZ) (σ := r_8) (As := [.int v2]) (rest := [.int v1, .ref (ad 5)]) ⟨hx, hb, hml, hown, hts⟩ hK hP hD hS (c_X4_typeOf l D ad cI cJ cZ r_8 v2 hg_18) (cwV 1 hts gX3_serveStatic_X4_typeOf rfl rfl rfl hd_X4_typeOf ⟨Nat.le_trans (Nat.le_of_ble_eq_true rfl) hR.1, Nat.le_trans (Nat.le_of_ble_eq_true rfl) hR.2⟩) rfl (wC_2 _ _ _ _ _) rfl hl.1 rfl (Nat.le_of_ble_eq_true rfl) dX3_serveStatic_18 (fun H locs hP hS => ?_)
    obtain ⟨r_21, hg_21, hf⟩ := oc_e hf
    refine mV_wv (wd := wC ad cI cJ cZ) (σ := r_8) (As := [.int v1, .int r_18]) (rest := []) ⟨hx, hb, hml, hown, hts⟩ hK hP hD hS (c_X3_begin l D ad cI cJ cZ r_8 v1 r_18 hg_21) (cwV 2 hts gX3_serveStatic_X3_begin rfl rfl rfl hd_X3_begin ⟨Nat.le_trans (Nat.le_of_ble_eq_true rfl) hR.1, Nat.le_trans (Nat.le_of_ble_eq_true rfl) hR.2⟩) rfl (wC_5 _ _ _ _ _) rfl hl.1 rfl (Nat.le_of_ble_eq_true rfl) dX3_serveStatic_21 (fun H locs hP hS => ?_)
    exact rt_v (wd := wC ad cI cJ cZ) hx hb hr hlk (Option.some.inj hf) hP hS dX3_serveStatic_24
  · rw [if_neg c_1] at hf
    exact rt_v (wd := wC ad cI cJ cZ) hx hb hr hlk (Option.some.inj hf) hP hS dX3_serveStatic_4
theorem hd_X3_serveStatic : yX3_serveStatic.cls = RX3 ∧ yX3_serveStatic.cls ≠ "java/lang/invoke/MethodHandle" ∧ yX3_serveStatic.cls ≠ "java/lang/invoke/VarHandle" ∧ (parseMethodDescriptor yX3_serveStatic.desc).map (fun d => d.parameters.length) = some 2 := by decide +kernel
set_option maxHeartbeats 4000000 in
set_option maxRecDepth 100000 in
theorem c_X3_serveStatic (l : Launch) (D : va_G) (ad : Nat → Nat) (cI cJ cZ : ClassId) (σ : SS) (v1 : Int32) (v2 : Int32) {res : SS} (hf : p_X3_serveStatic_0 v1 v2 σ = some res) : Met l yX3_serveStatic wsX3_serveStatic ({ frames := 3, cells := 0, slots := 0, locals := 68 } : Room) (PW D (tyw cI cJ cZ) (wC ad cI cJ cZ σ) [.ref (ad 5), .int v1, .int v2]) (va_Qv (fun (u : SS) => u = res) (fun u t => va_P D vwCl (wC ad cI cJ cZ u) t.heap) (aC ad)) 0 0 (aC ad) := by
  refine Met.ofW (cc := cX3_serveStatic) (maxL := 3) (ret := none) (by decide) rfl ?_
  intro p e s m args below meth c s₁ B hml hv
  obtain ⟨rfl, hP, hK, hD0⟩ := hv
  have hD : ∀ σ, va_D (aC ad) (wC ad cI cJ cZ σ) := fun σ => wd_D hD0 (wC_map _ _ _ _ _) (wC_map _ _ _ _ _)
  have hm : mx p s m _ meth c cX3_serveStatic 3 none wsX3_serveStatic RX3 := ⟨B.exec, B.bytes, B.returns, hml, findClass_of_methodNamed B.named, atoms_spec (ws := wsX3_serveStatic) B.pre, B.notSynchronized⟩
  have hl := lv_entry ([.ref (ad 5), .int v1, .int v2]) (n := 3) (Nat.le_of_ble_eq_true rfl)
  rw [lg_entry_eq]
  generalize (lg_sl ([.ref (ad 5), .int v1, .int v2]) ++ List.replicate (3 - (lg_sl ([.ref (ad 5), .int v1, .int v2])).length) Slot.unset).toArray = ls at hl ⊢
  exact w_X3_serveStatic_0 hm ⟨Nat.le_refl _, Nat.le_refl _⟩ hK hD v1 v2 σ hf _ _ _ hP va_S.rf hl
/-! CallGraphs$Graph.serve(I)V -/
theorem in_X3_serve_X3 : ∀ w ∈ u_ws RX3 TX3 13, w ∈ wsX3_serve := fun w h => List.mem_cons_of_mem _ (List.mem_append_left _ (List.mem_append_left _ (List.mem_append_left _ (List.mem_append_left _ (List.mem_append_right _ h)))))
def p_X3_serve_188 (σ : SS) : Option (SS) := some σ
set_option maxHeartbeats 4000000 in
set_option maxRecDepth 100000 in
theorem w_X3_serve_188 {p : Program} {l : Launch} {e : Env} {R : Room} {s : State} {m : MethodId} {args : Array Value} {below : List Frame} {meth : Method} {c : Code} {D : va_G} {ad : Nat → Nat} {cI cJ cZ : ClassId} {res : SS} (hm : mx p s m args meth c cX3_serve 4 none wsX3_serve RX3) (hR : 4 ≤ R.frames ∧ 90 ≤ R.locals) (hK : va_K D vwCl (tyw cI cJ cZ) s) (hD : ∀ σ, va_D (aC ad) (wC ad cI cJ cZ σ)) (σ : SS) (hf : p_X3_serve_188 σ = some res) (H : Heap) (locs : List Loc) (ls : Array Slot) (hP : va_P D vwCl (wC ad cI cJ cZ σ) H) (hS : va_S (aC ad) s.heap H locs) (hl : lv_has ls 4 []) : W p l e R s m args below meth c H locs 0 0 (MQ below (va_Qv (fun (u : SS) => u = res) (fun u t => va_P D vwCl (wC ad cI cJ cZ u) t.heap) (aC ad)) args s 0 0 (aC ad)) (F0 m 188 ls []) := by
  obtain ⟨hx, hb, hr, hml, hown, hts, hlk⟩ := id hm
  unfold p_X3_serve_188 at hf
  exact rt_v (wd := wC ad cI cJ cZ) hx hb hr hlk (Option.some.inj hf) hP hS dX3_serve_188
def p_X3_serve_89 (v1 : Int32) (v2 : Int32) (v3 : Int32) (σ : SS) : Option (SS) := oc (p_X3_serveMade_0 v1 v2 v3 σ) (fun r_93 => p_X3_serve_188 r_93)
set_option maxHeartbeats 4000000 in
set_option maxRecDepth 100000 in
theorem w_X3_serve_89 {p : Program} {l : Launch} {e : Env} {R : Room} {s : State} {m : MethodId} {args : Array Value} {below : List Frame} {meth : Method} {c : Code} {D : va_G} {ad : Nat → Nat} {cI cJ cZ : ClassId} {res : SS} (hm : mx p s m args meth c cX3_serve 4 none wsX3_serve RX3) (hR : 4 ≤ R.frames ∧ 90 ≤ R.locals) (hK : va_K D vwCl (tyw cI cJ cZ) s) (hD : ∀ σ, va_D (aC ad) (wC ad cI cJ cZ σ)) (v1 : Int32) (v2 : Int32) (v3 : Int32) (σ : SS) (hf : p_X3_serve_89 v1 v2 v3 σ = some res) (H : Heap) (locs : List Loc) (ls : Array Slot) (hP : va_P D vwCl (wC ad cI cJ cZ σ) H) (hS : va_S (aC ad) s.heap H locs) (hl : lv_has ls 4 [(0, .ref (ad 5)), (1, .int v1), (2, .int v2), (3, .int v3)]) : W p l e R s m args below meth c H locs 0 0 (MQ below (va_Qv (fun (u : SS) => u = res) (fun u t => va_P D vwCl (wC ad cI cJ cZ u) t.heap) (aC ad)) args s 0 0 (aC ad)) (F0 m 89 ls []) := by
  obtain ⟨hx, hb, hr, hml, hown, hts, hlk⟩ := id hm
  unfold p_X3_serve_89 at hf
  refine lv_aload_n hx hb dX3_serve_89 rfl (lv_at hl 0 rfl) ?_
  refine lv_iload_n hx hb dX3_serve_90 rfl (lv_at hl 1 rfl) ?_
  refine lv_iload_n hx hb dX3_serve_91 rfl (lv_at hl 2 rfl) ?_
  refine lv_iload_n hx hb dX3_serve_92 rfl (lv_at hl 3 rfl) ?_
  obtain ⟨r_93, hg_93, hf⟩ := oc_e hf
  refine mV_wv (wd := wC ad cI cJ cZ) (σ := σ) (As := [.int v1, .int v2, .int v3]) (rest := []) ⟨hx, hb, hml, hown, hts⟩ hK hP hD hS (c_X3_serveMade l D ad cI cJ cZ σ v1 v2 v3 hg_93) (cwV 3 hts gX3_serve_X3_serveMade rfl rfl rfl hd_X3_serveMade ⟨Nat.le_trans (Nat.le_of_ble_eq_true rfl) hR.1, Nat.le_trans (Nat.le_of_ble_eq_true rfl) hR.2⟩) rfl (wC_5 _ _ _ _ _) rfl hl.1 rfl (Nat.le_of_ble_eq_true rfl) dX3_serve_93 (fun H locs hP hS => ?_)
  refine lv_goto (tgt := 188) hx hb dX3_serve_96 (by decide) ?_
  exact w_X3_serve_188 hm hR hK hD r_93 hf _ _ _ hP hS (lv_sub hl [] rfl)
def p_X3_serve_0 (v1 : Int32) (σ : SS) : Option (SS) := oc (p_X5_a_0 σ v1) (fun r_5 => oc (p_X5_b_0 σ v1) (fun r_14 => oc (p_X5_kindOf_0 σ v1) (fun r_23 => (if r_23 = 0 then oc (p_X0_with_0 (σ.2 5 10) r_5) (fun r_74 => os (sL σ 5 10 r_74) (fun s_77 => oc (p_X3_begin_0 v1 r_5 s_77) (fun r_83 => p_X3_serve_188 r_83))) else if r_23 = 1 then p_X3_serve_89 v1 r_5 r_14 σ else if r_23 = 2 then oc (p_X1_choose_0 σ r_5 r_5 r_14) (fun r_108 => oc (p_X3_addCallee_0 v1 r_108 σ) (fun r_111 => p_X3_serve_188 r_111)) else if r_23 = 3 then oc (p_X1_chooseStatic_0 σ r_5 r_14) (fun r_125 => oc (p_X3_serveStatic_0 v1 r_125 σ) (fun r_128 => p_X3_serve_188 r_128)) else if r_23 = 4 then p_X3_serve_89 v1 r_5 r_14 σ else if r_23 = 5 then oi r_5 4 (oc (p_X0_with_0 (σ.2 24 r_5.toNatClampNeg) r_14) (fun r_146 => oi r_5 4 (os (sL σ 24 (r_5.toNatClampNeg) r_146) (fun s_149 => p_X3_serve_188 s_149)))) else if r_23 = 6 then oi v1 160 (oi r_5 4 (oi v1 160 (os (sL σ 25 (v1.toNatClampNeg) ((σ.2 25 v1.toNatClampNeg) ||| (σ.2 24 r_5.toNatClampNeg))) (fun s_167 => p_X3_serve_188 s_167)))) else oi v1 160 (oc (p_X4_handlesOf_0 σ r_14) (fun r_183 => oi v1 160 (os (sL σ 25 (v1.toNatClampNeg) ((σ.2 25 v1.toNatClampNeg) ||| r_183)) (fun s_187 => p_X3_serve_188 s_187))))))))
set_option maxHeartbeats 4000000 in
set_option maxRecDepth 100000 in
theorem w_X3_serve_0 {p : Program} {l : Launch} {e : Env} {R : Room} {s : State} {m : MethodId} {args : Array Value} {below : List Frame} {meth : Method} {c : Code} {D : va_G} {ad : Nat → Nat} {cI cJ cZ : ClassId} {res : SS} (hm : mx p s m args meth c cX3_serve 4 none wsX3_serve RX3) (hR : 4 ≤ R.frames ∧ 90 ≤ R.locals) (hK : va_K D vwCl (tyw cI cJ cZ) s) (hD : ∀ σ, va_D (aC ad) (wC ad cI cJ cZ σ)) (v1 : Int32) (σ : SS) (hf : p_X3_serve_0 v1 σ = some res) (H : Heap) (locs : List Loc) (ls : Array Slot) (hP : va_P D vwCl (wC ad cI cJ cZ σ) H) (hS : va_S (aC ad) s.heap H locs) (hl : lv_has ls 4 [(0, .ref (ad 5)), (1, .int v1)]) : W p l e R s m args below meth c H locs 0 0 (MQ below (va_Qv (fun (u : SS) => u = res) (fun u t => va_P D vwCl (wC ad cI cJ cZ u) t.heap) (aC ad)) args s 0 0 (aC ad)) (F0 m 0 ls []) := by
  obtain ⟨hx, hb, hr, hml, hown, hts, hlk⟩ := id hm
  unfold p_X3_serve_0 at hf
  refine lv_aload_n hx hb dX3_serve_0 rfl (lv_at hl 0 rfl) ?_
  refine va_get (D := D) (ci := 2) (v := .ref (ad 4)) (C := RX3) (T := TX3) (N := 13) hx hb hts in_X3_serve_X3 hown hK hP 5 (wC_5 _ _ _ _ _) rfl 3 (by decide) (hts (.fieldLink RX3 39 "CallGraphs$Graph" "ops" "LCallGraphs$Ops;") (List.mem_of_getElem? (i := 1) rfl)) (fun _ h9 => h9) (fC_5_3 _ _) dX3_serve_1 ?_
  refine lv_iload_n hx hb dX3_serve_4 rfl (lv_at hl 1 rfl) ?_
  obtain ⟨r_5, hg_5, hf⟩ := oc_e hf
  refine mV_ri (wd := wC ad cI cJ cZ) (σ := σ) (As := [.int v1]) (rest := []) ⟨hx, hb, hml, hown, hts⟩ hK hP hD hS (c_X5_a l D ad cI cJ cZ σ v1 hg_5) (cwV 1 hts gX3_serve_X5_a rfl rfl rfl hd_X5_a ⟨Nat.le_trans (Nat.le_of_ble_eq_true rfl) hR.1, Nat.le_trans (Nat.le_of_ble_eq_true rfl) hR.2⟩) rfl (wC_4 _ _ _ _ _) rfl hl.1 rfl (Nat.le_of_ble_eq_true rfl) dX3_serve_5 (fun H locs hP hS => ?_)
  refine lv_istore_n (lv' := [(2, .int r_5), (0, .ref (ad 5)), (1, .int v1)]) hx hb dX3_serve_8 rfl hl (by decide) rfl (fun ls hl => ?_)
  refine lv_aload_n hx hb dX3_serve_9 rfl (lv_at hl 1 rfl) ?_
  refine va_get (D := D) (ci := 2) (v := .ref (ad 4)) (C := RX3) (T := TX3) (N := 13) hx hb hts in_X3_serve_X3 hown hK hP 5 (wC_5 _ _ _ _ _) rfl 3 (by decide) (hts (.fieldLink RX3 39 "CallGraphs$Graph" "ops" "LCallGraphs$Ops;") (List.mem_of_getElem? (i := 1) rfl)) (fun _ h9 => h9) (fC_5_3 _ _) dX3_serve_10 ?_
  refine lv_iload_n hx hb dX3_serve_13 rfl (lv_at hl 2 rfl) ?_
  obtain ⟨r_14, hg_14, hf⟩ := oc_e hf
  refine mV_ri (wd := wC ad cI cJ cZ) (σ := σ) (As := [.int v1]) (rest := []) ⟨hx, hb, hml, hown, hts⟩ hK hP hD hS (c_X5_b l D ad cI cJ cZ σ v1 hg_14) (cwV 1 hts gX3_serve_X5_b rfl rfl rfl hd_X5_b ⟨Nat.le_trans (Nat.le_of_ble_eq_true rfl) hR.1, Nat.le_trans (Nat.le_of_ble_eq_true rfl) hR.2⟩) rfl (wC_4 _ _ _ _ _) rfl hl.1 rfl (Nat.le_of_ble_eq_true rfl) dX3_serve_14 (fun H locs hP hS => ?_)
  refine lv_istore_n (lv' := [(3, .int r_14), (2, .int r_5), (0, .ref (ad 5)), (1, .int v1)]) hx hb dX3_serve_17 rfl hl (by decide) rfl (fun ls hl => ?_)
  refine lv_aload_n hx hb dX3_serve_18 rfl (lv_at hl 2 rfl) ?_
  refine va_get (D := D) (ci := 2) (v := .ref (ad 4)) (C := RX3) (T := TX3) (N := 13) hx hb hts in_X3_serve_X3 hown hK hP 5 (wC_5 _ _ _ _ _) rfl 3 (by decide) (hts (.fieldLink RX3 39 "CallGraphs$Graph" "ops" "LCallGraphs$Ops;") (List.mem_of_getElem? (i := 1) rfl)) (fun _ h9 => h9) (fC_5_3 _ _) dX3_serve_19 ?_
  refine lv_iload_n hx hb dX3_serve_22 rfl (lv_at hl 3 rfl) ?_
  obtain ⟨r_23, hg_23, hf⟩ := oc_e hf
  refine mV_ri (wd := wC ad cI cJ cZ) (σ := σ) (As := [.int v1]) (rest := []) ⟨hx, hb, hml, hown, hts⟩ hK hP hD hS (c_X5_kindOf l D ad cI cJ cZ σ v1 hg_23) (cwV 1 hts gX3_serve_X5_kindOf rfl rfl rfl hd_X5_kindOf ⟨Nat.le_trans (Nat.le_of_ble_eq_true rfl) hR.1, Nat.le_trans (Nat.le_of_ble_eq_true rfl) hR.2⟩) rfl (wC_4 _ _ _ _ _) rfl hl.1 rfl (Nat.le_of_ble_eq_true rfl) dX3_serve_23 (fun H locs hP hS => ?_)
  by_cases c_26_0 : r_23 = 0
  · rw [if_pos c_26_0] at hf
    refine lv_tableIn (off := 42) (tgt := 68) hx hb dX3_serve_26 (by rw [c_26_0]; decide) (by rw [c_26_0]; decide) (by rw [c_26_0]; rfl) (by decide) ?_
    refine lv_aload_n hx hb dX3_serve_68 rfl (lv_at hl 2 rfl) ?_
    refine lv_aload_n hx hb dX3_serve_69 rfl (lv_at hl 2 rfl) ?_
    refine va_get (D := D) (ci := 2) (v := .long (σ.2 5 10)) (C := RX3) (T := TX3) (N := 13) hx hb hts in_X3_serve_X3 hown hK hP 5 (wC_5 _ _ _ _ _) rfl 10 (by decide) (hts (.fieldLink RX3 73 "CallGraphs$Graph" "made" "J") (List.mem_of_getElem? (i := 2) rfl)) (fun _ h9 => h9) (fC_5_10 _ _) dX3_serve_70 ?_
    refine lv_iload_n hx hb dX3_serve_73 rfl (lv_at hl 1 rfl) ?_
    obtain ⟨r_74, hg_74, hf⟩ := oc_e hf
    refine mS_l (D := D) (As := [.long (σ.2 5 10), .int r_5]) (rest := [.ref (ad 5)]) ⟨hx, hb, hml, hown, hts⟩ hP hS (c_X0_with l (σ.2 5 10) r_5 hg_74) (va_cwS 2 hts gX3_serve_X0_with rfl rfl rfl hd_X0_with ⟨Nat.le_trans (Nat.le_of_ble_eq_true rfl) hR.1, Nat.le_trans (Nat.le_of_ble_eq_true rfl) hR.2⟩) rfl hl.1 rfl (Nat.le_of_ble_eq_true rfl) dX3_serve_74 (fun H locs hP hS => ?_)
    refine va_put (D := D) (ci := 2) (v := .long r_74) (ty := .long) (C := RX3) (T := TX3) (N := 13) hx hb hts in_X3_serve_X3 tyX3 tyX3_ok nmX3 hown hK hP (hD _) hS 5 (wC_5 _ _ _ _ _) rfl 10 (by decide) (hts (.fieldLink RX3 73 "CallGraphs$Graph" "made" "J") (List.mem_of_getElem? (i := 2) rfl)) (fun _ h9 => h9) rfl (tyX3_ok 10 (by decide)) rfl rfl (Nat.le_of_ble_eq_true rfl) dX3_serve_77 (fun H locs hP _ hS => ?_)
    have hP := wC_p5_10 hP
    obtain ⟨s_77, es_77, hf⟩ := os_e hf
    rw [← es_77] at hP
    refine lv_aload_n hx hb dX3_serve_80 rfl (lv_at hl 2 rfl) ?_
    refine lv_iload_n hx hb dX3_serve_81 rfl (lv_at hl 3 rfl) ?_
    refine lv_iload_n hx hb dX3_serve_82 rfl (lv_at hl 1 rfl) ?_
    obtain ⟨r_83, hg_83, hf⟩ := oc_e hf
    refine mV_wv (wd := wC ad cI cJ cZ) (σ := s_77) (As := [.int v1, .int r_5]) (rest := []) ⟨hx, hb, hml, hown, hts⟩ hK hP hD hS (c_X3_begin l D ad cI cJ cZ s_77 v1 r_5 hg_83) (cwV 2 hts gX3_serve_X3_begin rfl rfl rfl hd_X3_begin ⟨Nat.le_trans (Nat.le_of_ble_eq_true rfl) hR.1, Nat.le_trans (Nat.le_of_ble_eq_true rfl) hR.2⟩) rfl (wC_5 _ _ _ _ _) rfl hl.1 rfl (Nat.le_of_ble_eq_true rfl) dX3_serve_83 (fun H locs hP hS => ?_)
    refine lv_goto (tgt := 188) hx hb dX3_serve_86 (by decide) ?_
    exact w_X3_serve_188 hm hR hK hD r_83 hf _ _ _ hP hS (lv_sub hl [] rfl)
  rw [if_neg c_26_0] at hf
  by_cases c_26_1 : r_23 = 1
  · rw [if_pos c_26_1] at hf
    refine lv_tableIn (off := 63) (tgt := 89) hx hb dX3_serve_26 (by rw [c_26_1]; decide) (by rw [c_26_1]; decide) (by rw [c_26_1]; rfl) (by decide) ?_
    exact w_X3_serve_89 hm hR hK hD v1 r_5 r_14 σ hf _ _ _ hP hS (lv_sub hl [2, 3, 1, 0] rfl)
  rw [if_neg c_26_1] at hf
  by_cases c_26_2 : r_23 = 2
  · rw [if_pos c_26_2] at hf
    refine lv_tableIn (off := 73) (tgt := 99) hx hb dX3_serve_26 (by rw [c_26_2]; decide) (by rw [c_26_2]; decide) (by rw [c_26_2]; rfl) (by decide) ?_
    refine lv_aload_n hx hb dX3_serve_99 rfl (lv_at hl 2 rfl) ?_
    refine lv_iload_n hx hb dX3_serve_100 rfl (lv_at hl 3 rfl) ?_
    refine lv_aload_n hx hb dX3_serve_101 rfl (lv_at hl 2 rfl) ?_
    refine va_get (D := D) (ci := 2) (v := .ref (ad 3)) (C := RX3) (T := TX3) (N := 13) hx hb hts in_X3_serve_X3 hown hK hP 5 (wC_5 _ _ _ _ _) rfl 2 (by decide) (hts (.fieldLink RX3 35 "CallGraphs$Graph" "choices" "LCallGraphs$Choices;") (List.mem_of_getElem? (i := 3) rfl)) (fun _ h9 => h9) (fC_5_2 _ _) dX3_serve_102 ?_
    refine lv_iload_n hx hb dX3_serve_105 rfl (lv_at hl 1 rfl) ?_
    refine lv_iload_n hx hb dX3_serve_106 rfl (lv_at hl 1 rfl) ?_
    refine lv_iload_n hx hb dX3_serve_107 rfl (lv_at hl 0 rfl) ?_
    obtain ⟨r_108, hg_108, hf⟩ := oc_e hf
    refine mV_ri (wd := wC ad cI cJ cZ) (σ := σ) (As := [.int r_5, .int r_5, .int r_14]) (rest := [.int v1, .ref (ad 5)]) ⟨hx, hb, hml, hown, hts⟩ hK hP hD hS (c_X1_choose l D ad cI cJ cZ σ r_5 r_5 r_14 hg_108) (cwV 3 hts gX3_serve_X1_choose rfl rfl rfl hd_X1_choose ⟨Nat.le_trans (Nat.le_of_ble_eq_true rfl) hR.1, Nat.le_trans (Nat.le_of_ble_eq_true rfl) hR.2⟩) rfl (wC_3 _ _ _ _ _) rfl hl.1 rfl (Nat.le_of_ble_eq_true rfl) dX3_serve_108 (fun H locs hP hS => ?_)
    obtain ⟨r_111, hg_111, hf⟩ := oc_e hf
    refine mV_wv (wd := wC ad cI cJ cZ) (σ := σ) (As := [.int v1, .int r_108]) (rest := []) ⟨hx, hb, hml, hown, hts⟩ hK hP hD hS (c_X3_addCallee l D ad cI cJ cZ σ v1 r_108 hg_111) (cwV 2 hts gX3_serve_X3_addCallee rfl rfl rfl hd_X3_addCallee ⟨Nat.le_trans (Nat.le_of_ble_eq_true rfl) hR.1, Nat.le_trans (Nat.le_of_ble_eq_true rfl) hR.2⟩) rfl (wC_5 _ _ _ _ _) rfl hl.1 rfl (Nat.le_of_ble_eq_true rfl) dX3_serve_111 (fun H locs hP hS => ?_)
    refine lv_goto (tgt := 188) hx hb dX3_serve_114 (by decide) ?_
    exact w_X3_serve_188 hm hR hK hD r_111 hf _ _ _ hP hS (lv_sub hl [] rfl)
  rw [if_neg c_26_2] at hf
  by_cases c_26_3 : r_23 = 3
  · rw [if_pos c_26_3] at hf
    refine lv_tableIn (off := 91) (tgt := 117) hx hb dX3_serve_26 (by rw [c_26_3]; decide) (by rw [c_26_3]; decide) (by rw [c_26_3]; rfl) (by decide) ?_
    refine lv_aload_n hx hb dX3_serve_117 rfl (lv_at hl 2 rfl) ?_
    refine lv_iload_n hx hb dX3_serve_118 rfl (lv_at hl 3 rfl) ?_
    refine lv_aload_n hx hb dX3_serve_119 rfl (lv_at hl 2 rfl) ?_
    refine va_get (D := D) (ci := 2) (v := .ref (ad 3)) (C := RX3) (T := TX3) (N := 13) hx hb hts in_X3_serve_X3 hown hK hP 5 (wC_5 _ _ _ _ _) rfl 2 (by decide) (hts (.fieldLink RX3 35 "CallGraphs$Graph" "choices" "LCallGraphs$Choices;") (List.mem_of_getElem? (i := 3) rfl)) (fun _ h9 => h9) (fC_5_2 _ _) dX3_serve_120 ?_
    refine lv_iload_n hx hb dX3_serve_123 rfl (lv_at hl 1 rfl) ?_
    refine lv_iload_n hx hb dX3_serve_124 rfl (lv_at hl 0 rfl) ?_
    obtain ⟨r_125, hg_125, hf⟩ := oc_e hf
    refine mV_ri (wd := wC ad cI cJ cZ) (σ := σ) (As := [.int r_5, .int r_14]) (rest := [.int v1, .ref (ad 5)]) ⟨hx, hb, hml, hown, hts⟩ hK hP hD hS (c_X1_chooseStatic l D ad cI cJ cZ σ r_5 r_14 hg_125) (cwV 2 hts gX3_serve_X1_chooseStatic rfl rfl rfl hd_X1_chooseStatic ⟨Nat.le_trans (Nat.le_of_ble_eq_true rfl) hR.1, Nat.le_trans (Nat.le_of_ble_eq_true rfl) hR.2⟩) rfl (wC_3 _ _ _ _ _) rfl hl.1 rfl (Nat.le_of_ble_eq_true rfl) dX3_serve_125 (fun H locs hP hS => ?_)
    obtain ⟨r_128, hg_128, hf⟩ := oc_e hf
    refine mV_wv (wd := wC ad cI cJ cZ) (σ := σ) (As := [.int v1, .int r_125]) (rest := []) ⟨hx, hb, hml, hown, hts⟩ hK hP hD hS (c_X3_serveStatic l D ad cI cJ cZ σ v1 r_125 hg_128) (cwV 2 hts gX3_serve_X3_serveStatic rfl rfl rfl hd_X3_serveStatic ⟨Nat.le_trans (Nat.le_of_ble_eq_true rfl) hR.1, Nat.le_trans (Nat.le_of_ble_eq_true rfl) hR.2⟩) rfl (wC_5 _ _ _ _ _) rfl hl.1 rfl (Nat.le_of_ble_eq_true rfl) dX3_serve_128 (fun H locs hP hS => ?_)
    refine lv_goto (tgt := 188) hx hb dX3_serve_131 (by decide) ?_
    exact w_X3_serve_188 hm hR hK hD r_128 hf _ _ _ hP hS (lv_sub hl [] rfl)
  rw [if_neg c_26_3] at hf
  by_cases c_26_4 : r_23 = 4
  · rw [if_pos c_26_4] at hf
    refine lv_tableIn (off := 63) (tgt := 89) hx hb dX3_serve_26 (by rw [c_26_4]; decide) (by rw [c_26_4]; decide) (by rw [c_26_4]; rfl) (by decide) ?_
    exact w_X3_serve_89 hm hR hK hD v1 r_5 r_14 σ hf _ _ _ hP hS (lv_sub hl [2, 3, 1, 0] rfl)
  rw [if_neg c_26_4] at hf
  by_cases c_26_5 : r_23 = 5
  · rw [if_pos c_26_5] at hf
    refine lv_tableIn (off := 108) (tgt := 134) hx hb dX3_serve_26 (by rw [c_26_5]; decide) (by rw [c_26_5]; decide) (by rw [c_26_5]; rfl) (by decide) ?_
    refine lv_aload_n hx hb dX3_serve_134 rfl (lv_at hl 2 rfl) ?_
    refine va_get (D := D) (ci := 2) (v := .ref (ad 24)) (C := RX3) (T := TX3) (N := 13) hx hb hts in_X3_serve_X3 hown hK hP 5 (wC_5 _ _ _ _ _) rfl 4 (by decide) (hts (.fieldLink RX3 9 "CallGraphs$Graph" "bags" "[J") (List.mem_of_getElem? (i := 4) rfl)) (fun _ h9 => h9) (fC_5_4 _ _) dX3_serve_135 ?_
    refine lv_iload_n hx hb dX3_serve_138 rfl (lv_at hl 1 rfl) ?_
    refine lv_aload_n hx hb dX3_serve_139 rfl (lv_at hl 2 rfl) ?_
    refine va_get (D := D) (ci := 2) (v := .ref (ad 24)) (C := RX3) (T := TX3) (N := 13) hx hb hts in_X3_serve_X3 hown hK hP 5 (wC_5 _ _ _ _ _) rfl 4 (by decide) (hts (.fieldLink RX3 9 "CallGraphs$Graph" "bags" "[J") (List.mem_of_getElem? (i := 4) rfl)) (fun _ h9 => h9) (fC_5_4 _ _) dX3_serve_140 ?_
    refine lv_iload_n hx hb dX3_serve_143 rfl (lv_at hl 1 rfl) ?_
    obtain ⟨h_144, hf⟩ := oi_e hf
    refine va_lald hx hb hK hP 24 1 (wC_24 _ _ _ _ _) rfl h_144 dX3_serve_144 ?_
    refine lv_iload_n hx hb dX3_serve_145 rfl (lv_at hl 0 rfl) ?_
    obtain ⟨r_146, hg_146, hf⟩ := oc_e hf
    refine mS_l (D := D) (As := [.long (σ.2 24 r_5.toNatClampNeg), .int r_14]) (rest := [.int r_5, .ref (ad 24)]) ⟨hx, hb, hml, hown, hts⟩ hP hS (c_X0_with l (σ.2 24 r_5.toNatClampNeg) r_14 hg_146) (va_cwS 2 hts gX3_serve_X0_with rfl rfl rfl hd_X0_with ⟨Nat.le_trans (Nat.le_of_ble_eq_true rfl) hR.1, Nat.le_trans (Nat.le_of_ble_eq_true rfl) hR.2⟩) rfl hl.1 rfl (Nat.le_of_ble_eq_true rfl) dX3_serve_146 (fun H locs hP hS => ?_)
    obtain ⟨h_149, hf⟩ := oi_e hf
    refine va_last hx hb hK hP (hD _) hS 24 1 (wC_24 _ _ _ _ _) rfl h_149 dX3_serve_149 (fun H locs hP _ hS => ?_)
    have hP := wC_s24 hP
    obtain ⟨s_149, es_149, hf⟩ := os_e hf
    rw [← es_149] at hP
    refine lv_goto (tgt := 188) hx hb dX3_serve_150 (by decide) ?_
    exact w_X3_serve_188 hm hR hK hD s_149 hf _ _ _ hP hS (lv_sub hl [] rfl)
  rw [if_neg c_26_5] at hf
  by_cases c_26_6 : r_23 = 6
  · rw [if_pos c_26_6] at hf
    refine lv_tableIn (off := 127) (tgt := 153) hx hb dX3_serve_26 (by rw [c_26_6]; decide) (by rw [c_26_6]; decide) (by rw [c_26_6]; rfl) (by decide) ?_
    refine lv_aload_n hx hb dX3_serve_153 rfl (lv_at hl 2 rfl) ?_
    refine va_get (D := D) (ci := 2) (v := .ref (ad 25)) (C := RX3) (T := TX3) (N := 13) hx hb hts in_X3_serve_X3 hown hK hP 5 (wC_5 _ _ _ _ _) rfl 5 (by decide) (hts (.fieldLink RX3 15 "CallGraphs$Graph" "callees" "[J") (List.mem_of_getElem? (i := 5) rfl)) (fun _ h9 => h9) (fC_5_5 _ _) dX3_serve_154 ?_
    refine lv_iload_n hx hb dX3_serve_157 rfl (lv_at hl 3 rfl) ?_
    refine lv_dup2_11 hx hb dX3_serve_158 rfl rfl ?_
    obtain ⟨h_159, hf⟩ := oi_e hf
    refine va_lald hx hb hK hP 25 1 (wC_25 _ _ _ _ _) rfl h_159 dX3_serve_159 ?_
    refine lv_aload_n hx hb dX3_serve_160 rfl (lv_at hl 2 rfl) ?_
    refine va_get (D := D) (ci := 2) (v := .ref (ad 24)) (C := RX3) (T := TX3) (N := 13) hx hb hts in_X3_serve_X3 hown hK hP 5 (wC_5 _ _ _ _ _) rfl 4 (by decide) (hts (.fieldLink RX3 9 "CallGraphs$Graph" "bags" "[J") (List.mem_of_getElem? (i := 4) rfl)) (fun _ h9 => h9) (fC_5_4 _ _) dX3_serve_161 ?_
    refine lv_iload_n hx hb dX3_serve_164 rfl (lv_at hl 1 rfl) ?_
    obtain ⟨h_165, hf⟩ := oi_e hf
    refine va_lald hx hb hK hP 24 1 (wC_24 _ _ _ _ _) rfl h_165 dX3_serve_165 ?_
    refine lv_lor hx hb dX3_serve_166 ?_
    obtain ⟨h_167, hf⟩ := oi_e hf
    refine va_last hx hb hK hP (hD _) hS 25 1 (wC_25 _ _ _ _ _) rfl h_167 dX3_serve_167 (fun H locs hP _ hS => ?_)
    have hP := wC_s25 hP
    obtain ⟨s_167, es_167, hf⟩ := os_e hf
    rw [← es_167] at hP
    refine lv_goto (tgt := 188) hx hb dX3_serve_168 (by decide) ?_
    exact w_X3_serve_188 hm hR hK hD s_167 hf _ _ _ hP hS (lv_sub hl [] rfl)
  rw [if_neg c_26_6] at hf
  refine lv_tableOut (tgt := 171) hx hb dX3_serve_26 (by have g0 := lv_neT c_26_0 (a := 0) (by decide); have g1 := lv_neT c_26_1 (a := 1) (by decide); have g2 := lv_neT c_26_2 (a := 2) (by decide); have g3 := lv_neT c_26_3 (a := 3) (by decide); have g4 := lv_neT c_26_4 (a := 4) (by decide); have g5 := lv_neT c_26_5 (a := 5) (by decide); have g6 := lv_neT c_26_6 (a := 6) (by decide); omega) (by decide) ?_
  refine lv_aload_n hx hb dX3_serve_171 rfl (lv_at hl 2 rfl) ?_
  refine va_get (D := D) (ci := 2) (v := .ref (ad 25)) (C := RX3) (T := TX3) (N := 13) hx hb hts in_X3_serve_X3 hown hK hP 5 (wC_5 _ _ _ _ _) rfl 5 (by decide) (hts (.fieldLink RX3 15 "CallGraphs$Graph" "callees" "[J") (List.mem_of_getElem? (i := 5) rfl)) (fun _ h9 => h9) (fC_5_5 _ _) dX3_serve_172 ?_
  refine lv_iload_n hx hb dX3_serve_175 rfl (lv_at hl 3 rfl) ?_
  refine lv_dup2_11 hx hb dX3_serve_176 rfl rfl ?_
  obtain ⟨h_177, hf⟩ := oi_e hf
  refine va_lald hx hb hK hP 25 1 (wC_25 _ _ _ _ _) rfl h_177 dX3_serve_177 ?_
  refine lv_aload_n hx hb dX3_serve_178 rfl (lv_at hl 2 rfl) ?_
  refine va_get (D := D) (ci := 2) (v := .ref (ad 2)) (C := RX3) (T := TX3) (N := 13) hx hb hts in_X3_serve_X3 hown hK hP 5 (wC_5 _ _ _ _ _) rfl 1 (by decide) (hts (.fieldLink RX3 31 "CallGraphs$Graph" "members" "LCallGraphs$Members;") (List.mem_of_getElem? (i := 6) rfl)) (fun _ h9 => h9) (fC_5_1 _ _) dX3_serve_179 ?_
  refine lv_iload_n hx hb dX3_serve_182 rfl (lv_at hl 0 rfl) ?_
  obtain ⟨r_183, hg_183, hf⟩ := oc_e hf
  refine mV_rl (wd := wC ad cI cJ cZ) (σ := σ) (As := [.int r_14]) (rest := [.long (σ.2 25 v1.toNatClampNeg), .int v1, .ref (ad 25)]) ⟨hx, hb, hml, hown, hts⟩ hK hP hD hS (c_X4_handlesOf l D ad cI cJ cZ σ r_14 hg_183) (cwV 1 hts gX3_serve_X4_handlesOf rfl rfl rfl hd_X4_handlesOf ⟨Nat.le_trans (Nat.le_of_ble_eq_true rfl) hR.1, Nat.le_trans (Nat.le_of_ble_eq_true rfl) hR.2⟩) rfl (wC_2 _ _ _ _ _) rfl hl.1 rfl (Nat.le_of_ble_eq_true rfl) dX3_serve_183 (fun H locs hP hS => ?_)
  refine lv_lor hx hb dX3_serve_186 ?_
  obtain ⟨h_187, hf⟩ := oi_e hf
  refine va_last hx hb hK hP (hD _) hS 25 1 (wC_25 _ _ _ _ _) rfl h_187 dX3_serve_187 (fun H locs hP _ hS => ?_)
  have hP := wC_s25 hP
  obtain ⟨s_187, es_187, hf⟩ := os_e hf
  rw [← es_187] at hP
  exact w_X3_serve_188 hm hR hK hD s_187 hf _ _ _ hP hS (lv_sub hl [] rfl)
theorem hd_X3_serve : yX3_serve.cls = RX3 ∧ yX3_serve.cls ≠ "java/lang/invoke/MethodHandle" ∧ yX3_serve.cls ≠ "java/lang/invoke/VarHandle" ∧ (parseMethodDescriptor yX3_serve.desc).map (fun d => d.parameters.length) = some 1 := by decide +kernel
set_option maxHeartbeats 4000000 in
set_option maxRecDepth 100000 in
theorem c_X3_serve (l : Launch) (D : va_G) (ad : Nat → Nat) (cI cJ cZ : ClassId) (σ : SS) (v1 : Int32) {res : SS} (hf : p_X3_serve_0 v1 σ = some res) : Met l yX3_serve wsX3_serve ({ frames := 4, cells := 0, slots := 0, locals := 90 } : Room) (PW D (tyw cI cJ cZ) (wC ad cI cJ cZ σ) [.ref (ad 5), .int v1]) (va_Qv (fun (u : SS) => u = res) (fun u t => va_P D vwCl (wC ad cI cJ cZ u) t.heap) (aC ad)) 0 0 (aC ad) := by
  refine Met.ofW (cc := cX3_serve) (maxL := 4) (ret := none) (by decide) rfl ?_
  intro p e s m args below meth c s₁ B hml hv
  obtain ⟨rfl, hP, hK, hD0⟩ := hv
  have hD : ∀ σ, va_D (aC ad) (wC ad cI cJ cZ σ) := fun σ => wd_D hD0 (wC_map _ _ _ _ _) (wC_map _ _ _ _ _)
  have hm : mx p s m _ meth c cX3_serve 4 none wsX3_serve RX3 := ⟨B.exec, B.bytes, B.returns, hml, findClass_of_methodNamed B.named, atoms_spec (ws := wsX3_serve) B.pre, B.notSynchronized⟩
  have hl := lv_entry ([.ref (ad 5), .int v1]) (n := 4) (Nat.le_of_ble_eq_true rfl)
  rw [lg_entry_eq]
  generalize (lg_sl ([.ref (ad 5), .int v1]) ++ List.replicate (4 - (lg_sl ([.ref (ad 5), .int v1])).length) Slot.unset).toArray = ls at hl ⊢
  exact w_X3_serve_0 hm ⟨Nat.le_refl _, Nat.le_refl _⟩ hK hD v1 σ hf _ _ _ hP va_S.rf hl
/-! CallGraphs$Graph.serveReached()V -/
theorem in_X3_serveReached_X3 : ∀ w ∈ u_ws RX3 TX3 13, w ∈ wsX3_serveReached := fun w h => List.mem_cons_of_mem _ (List.mem_append_left _ (List.mem_append_left _ (List.mem_append_left _ (List.mem_append_left _ (List.mem_append_right _ h)))))
def p_X3_serveReached_77 (k2 : Int32 → SS → Option (SS)) (v1 : Int32) (σ : SS) : Option (SS) := k2 (v1 + 1) σ
set_option maxHeartbeats 4000000 in
set_option maxRecDepth 100000 in
theorem w_X3_serveReached_77 {p : Program} {l : Launch} {e : Env} {R : Room} {s : State} {m : MethodId} {args : Array Value} {below : List Frame} {meth : Method} {c : Code} {D : va_G} {ad : Nat → Nat} {cI cJ cZ : ClassId} {res : SS} (hm : mx p s m args meth c cX3_serveReached 4 none wsX3_serveReached RX3) (hR : 5 ≤ R.frames ∧ 113 ≤ R.locals) (hK : va_K D vwCl (tyw cI cJ cZ) s) (hD : ∀ σ, va_D (aC ad) (wC ad cI cJ cZ σ)) (k2 : Int32 → SS → Option (SS)) (hk2 : ∀ (v1 : Int32) (σ : SS), k2 v1 σ = some res → ∀ (H : Heap) (locs : List Loc) (ls : Array Slot), va_P D vwCl (wC ad cI cJ cZ σ) H → va_S (aC ad) s.heap H locs → lv_has ls 4 [(0, .ref (ad 5)), (1, .int v1)] → W p l e R s m args below meth c H locs 0 0 (MQ below (va_Qv (fun (u : SS) => u = res) (fun u t => va_P D vwCl (wC ad cI cJ cZ u) t.heap) (aC ad)) args s 0 0 (aC ad)) (F0 m 2 ls [])) (v1 : Int32) (σ : SS) (hf : p_X3_serveReached_77 k2 v1 σ = some res) (H : Heap) (locs : List Loc) (ls : Array Slot) (hP : va_P D vwCl (wC ad cI cJ cZ σ) H) (hS : va_S (aC ad) s.heap H locs) (hl : lv_has ls 4 [(0, .ref (ad 5)), (1, .int v1)]) : W p l e R s m args below meth c H locs 0 0 (MQ below (va_Qv (fun (u : SS) => u = res) (fun u t => va_P D vwCl (wC ad cI cJ cZ u) t.heap) (aC ad)) args s 0 0 (aC ad)) (F0 m 77 ls []) := by
  obtain ⟨hx, hb, hr, hml, hown, hts, hlk⟩ := id hm
  unfold p_X3_serveReached_77 at hf
  refine lv_iinc (v := (v1 + 1)) (lv' := [(1, .int (v1 + 1)), (0, .ref (ad 5))]) hx hb dX3_serveReached_77 hl (k := 1) rfl rfl (by decide) rfl (fun ls hl => ?_)
  refine lv_goto (tgt := 2) hx hb dX3_serveReached_80 (by decide) ?_
  exact hk2 (v1 + 1) σ hf _ _ _ hP hS (lv_sub hl [1, 0] rfl)
def p_X3_serveReached_29 (k2 : Int32 → SS → Option (SS)) : Nat → Int32 → Int32 → SS → Option (SS)
  | 0, _, _, _ => none
  | n + 1, v1, v2, σ => let k29 := p_X3_serveReached_29 k2 n; oc (p_X5_sizeOf_0 σ v1) (fun r_35 => if r_35 ≤ v2 then p_X3_serveReached_77 k2 v1 σ else oc (p_X5_at_0 σ v1 v2) (fun r_47 => oc (p_X3_serve_0 r_47 σ) (fun r_53 => oi r_47 160 (os (sL r_53 5 9 ((r_53.2 5 9) ||| (r_53.2 25 r_47.toNatClampNeg))) (fun s_68 => k29 v1 (v2 + 1) s_68)))))
set_option maxHeartbeats 4000000 in
set_option maxRecDepth 100000 in
theorem w_X3_serveReached_29 {p : Program} {l : Launch} {e : Env} {R : Room} {s : State} {m : MethodId} {args : Array Value} {below : List Frame} {meth : Method} {c : Code} {D : va_G} {ad : Nat → Nat} {cI cJ cZ : ClassId} {res : SS} (hm : mx p s m args meth c cX3_serveReached 4 none wsX3_serveReached RX3) (hR : 5 ≤ R.frames ∧ 113 ≤ R.locals) (hK : va_K D vwCl (tyw cI cJ cZ) s) (hD : ∀ σ, va_D (aC ad) (wC ad cI cJ cZ σ)) (k2 : Int32 → SS → Option (SS)) (hk2 : ∀ (v1 : Int32) (σ : SS), k2 v1 σ = some res → ∀ (H : Heap) (locs : List Loc) (ls : Array Slot), va_P D vwCl (wC ad cI cJ cZ σ) H → va_S (aC ad) s.heap H locs → lv_has ls 4 [(0, .ref (ad 5)), (1, .int v1)] → W p l e R s m args below meth c H locs 0 0 (MQ below (va_Qv (fun (u : SS) => u = res) (fun u t => va_P D vwCl (wC ad cI cJ cZ u) t.heap) (aC ad)) args s 0 0 (aC ad)) (F0 m 2 ls [])) : ∀ (n : Nat) (v1 : Int32) (v2 : Int32) (σ : SS), p_X3_serveReached_29 k2 n v1 v2 σ = some res → ∀ (H : Heap) (locs : List Loc) (ls : Array Slot), va_P D vwCl (wC ad cI cJ cZ σ) H → va_S (aC ad) s.heap H locs → lv_has ls 4 [(0, .ref (ad 5)), (1, .int v1), (2, .int v2)] → W p l e R s m args below meth c H locs 0 0 (MQ below (va_Qv (fun (u : SS) => u = res) (fun u t => va_P D vwCl (wC ad cI cJ cZ u) t.heap) (aC ad)) args s 0 0 (aC ad)) (F0 m 29 ls []) := by
  obtain ⟨hx, hb, hr, hml, hown, hts, hlk⟩ := id hm
  intro n
  induction n with
  | zero =>
    intro _ _ _ hf
    cases hf
  | succ n hk29 =>
    intro v1 v2 σ hf H locs ls hP hS hl
    rw [p_X3_serveReached_29] at hf
    try dsimp only at hf
    refine lv_iload_n hx hb dX3_serveReached_29 rfl (lv_at hl 2 rfl) ?_
    refine lv_aload_n hx hb dX3_serveReached_30 rfl (lv_at hl 0 rfl) ?_
    refine va_get (D := D) (ci := 2) (v := .ref (ad 4)) (C := RX3) (T := TX3) (N := 13) hx hb hts in_X3_serveReached_X3 hown hK hP 5 (wC_5 _ _ _ _ _) rfl 3 (by decide) (hts (.fieldLink RX3 39 "CallGraphs$Graph" "ops" "LCallGraphs$Ops;") (List.mem_of_getElem? (i := 3) rfl)) (fun _ h9 => h9) (fC_5_3 _ _) dX3_serveReached_31 ?_
    refine lv_iload_n hx hb dX3_serveReached_34 rfl (lv_at hl 1 rfl) ?_
    obtain ⟨r_35, hg_35, hf⟩ := oc_e hf
    refine mV_ri (wd := wC ad cI cJ cZ) (σ := σ) (As := [.int v1]) (rest := [.int v2]) ⟨hx, hb, hml, hown, hts⟩ hK hP hD hS (c_X5_sizeOf l D ad cI cJ cZ σ v1 hg_35) (cwV 1 hts gX3_serveReached_X5_sizeOf rfl rfl rfl hd_X5_sizeOf ⟨Nat.le_trans (Nat.le_of_ble_eq_true rfl) hR.1, Nat.le_trans (Nat.le_of_ble_eq_true rfl) hR.2⟩) rfl (wC_4 _ _ _ _ _) rfl hl.1 rfl (Nat.le_of_ble_eq_true rfl) dX3_serveReached_35 (fun H locs hP hS => ?_)
    refine lv_icmp_ge (tgt := 77) hx hb dX3_serveReached_38 (by decide) (fun c_38 => ?_) (fun c_38 => ?_)
    · rw [if_pos c_38] at hf
      exact w_X3_serveReached_77 hm hR hK hD k2 hk2 v1 σ hf _ _ _ hP hS (lv_sub hl [0, 1] rfl)
    · rw [if_neg c_38] at hf
      refine lv_aload_n hx hb dX3_serveReached_41 rfl (lv_at hl 0 rfl) ?_
      refine va_get (D := D) (ci := 2) (v := .ref (ad 4)) (C := RX3) (T := TX3) (N := 13) hx hb hts in_X3_serveReached_X3 hown hK hP 5 (wC_5 _ _ _ _ _) rfl 3 (by decide) (hts (.fieldLink RX3 39 "CallGraphs$Graph" "ops" "LCallGraphs$Ops;") (List.mem_of_getElem? (i := 3) rfl)) (fun _ h9 => h9) (fC_5_3 _ _) dX3_serveReached_42 ?_
      refine lv_iload_n hx hb dX3_serveReached_45 rfl (lv_at hl 1 rfl) ?_
      refine lv_iload_n hx hb dX3_serveReached_46 rfl (lv_at hl 2 rfl) ?_
      obtain ⟨r_47, hg_47, hf⟩ := oc_e hf
      refine mV_ri (wd := wC ad cI cJ cZ) (σ := σ) (As := [.int v1, .int v2]) (rest := []) ⟨hx, hb, hml, hown, hts⟩ hK hP hD hS (c_X5_at l D ad cI cJ cZ σ v1 v2 hg_47) (cwV 2 hts gX3_serveReached_X5_at rfl rfl rfl hd_X5_at ⟨Nat.le_trans (Nat.le_of_ble_eq_true rfl) hR.1, Nat.le_trans (Nat.le_of_ble_eq_true rfl) hR.2⟩) rfl (wC_4 _ _ _ _ _) rfl hl.1 rfl (Nat.le_of_ble_eq_true rfl) dX3_serveReached_47 (fun H locs hP hS => ?_)
      refine lv_istore_n (lv' := [(3, .int r_47), (0, .ref (ad 5)), (1, .int v1), (2, .int v2)]) hx hb dX3_serveReached_50 rfl hl (by decide) rfl (fun ls hl => ?_)
      refine lv_aload_n hx hb dX3_serveReached_51 rfl (lv_at hl 1 rfl) ?_
      refine lv_iload_n hx hb dX3_serveReached_52 rfl (lv_at hl 0 rfl) ?_
      obtain ⟨r_53, hg_53, hf⟩ := oc_e hf
      refine mV_wv (wd := wC ad cI cJ cZ) (σ := σ) (As := [.int r_47]) (rest := []) ⟨hx, hb, hml, hown, hts⟩ hK hP hD hS (c_X3_serve l D ad cI cJ cZ σ r_47 hg_53) (cwV 1 hts gX3_serveReached_X3_serve rfl rfl rfl hd_X3_serve ⟨Nat.le_trans (Nat.le_of_ble_eq_true rfl) hR.1, Nat.le_trans (Nat.le_of_ble_eq_true rfl) hR.2⟩) rfl (wC_5 _ _ _ _ _) rfl hl.1 rfl (Nat.le_of_ble_eq_true rfl) dX3_serveReached_53 (fun H locs hP hS => ?_)
      refine lv_aload_n hx hb dX3_serveReached_56 rfl (lv_at hl 1 rfl) ?_
      refine lv_dup hx hb dX3_serveReached_57 rfl ?_
      refine va_get (D := D) (ci := 2) (v := .long (r_53.2 5 9)) (C := RX3) (T := TX3) (N := 13) hx hb hts in_X3_serveReached_X3 hown hK hP 5 (wC_5 _ _ _ _ _) rfl 9 (by decide) (hts (.fieldLink RX3 69 "CallGraphs$Graph" "reached" "J") (List.mem_of_getElem? (i := 2) rfl)) (fun _ h9 => h9) (fC_5_9 _ _) dX3_serveReached_58 ?_
      refine lv_aload_n hx hb dX3_serveReached_61 rfl (lv_at hl 1 rfl) ?_
      refine va_get (D := D) (ci := 2) (v := .ref (ad 25)) (C := RX3) (T := TX3) (N := 13) hx hb hts in_X3_serveReached_X3 hown hK hP 5 (wC_5 _ _ _ _ _) rfl 5 (by decide) (hts (.fieldLink RX3 15 "CallGraphs$Graph" "callees" "[J") (List.mem_of_getElem? (i := 4) rfl)) (fun _ h9 => h9) (fC_5_5 _ _) dX3_serveReached_62 ?_
      refine lv_iload_n hx hb dX3_serveReached_65 rfl (lv_at hl 0 rfl) ?_
      obtain ⟨h_66, hf⟩ := oi_e hf
      refine va_lald hx hb hK hP 25 1 (wC_25 _ _ _ _ _) rfl h_66 dX3_serveReached_66 ?_
      refine lv_lor hx hb dX3_serveReached_67 ?_
      refine va_put (D := D) (ci := 2) (v := .long ((r_53.2 5 9) ||| (r_53.2 25 r_47.toNatClampNeg))) (ty := .long) (C := RX3) (T := TX3) (N := 13) hx hb hts in_X3_serveReached_X3 tyX3 tyX3_ok nmX3 hown hK hP (hD _) hS 5 (wC_5 _ _ _ _ _) rfl 9 (by decide) (hts (.fieldLink RX3 69 "CallGraphs$Graph" "reached" "J") (List.mem_of_getElem? (i := 2) rfl)) (fun _ h9 => h9) rfl (tyX3_ok 9 (by decide)) rfl rfl (Nat.le_of_ble_eq_true rfl) dX3_serveReached_68 (fun H locs hP _ hS => ?_)
      have hP := wC_p5_9 hP
      obtain ⟨s_68, es_68, hf⟩ := os_e hf
      rw [← es_68] at hP
      refine lv_iinc (v := (v2 + 1)) (lv' := [(2, .int (v2 + 1)), (3, .int r_47), (0, .ref (ad 5)), (1, .int v1)]) hx hb dX3_serveReached_71 hl (k := 3) rfl rfl (by decide) rfl (fun ls hl => ?_)
      refine lv_goto (tgt := 29) hx hb dX3_serveReached_74 (by decide) ?_
      exact hk29 v1 (v2 + 1) s_68 hf _ _ _ hP hS (lv_sub hl [2, 3, 0] rfl)
def p_X3_serveReached_2 : Nat → Int32 → SS → Option (SS)
  | 0, _, _ => none
  | n + 1, v1, σ => let k2 := p_X3_serveReached_2 n; oc (p_X4_size_0 σ) (fun r_7 => if r_7 ≤ v1 then some σ else oc (p_X0_has_0 (σ.2 5 9) v1) (fun r_18 => if r_18 = 0 then p_X3_serveReached_77 k2 v1 σ else p_X3_serveReached_29 k2 100000 v1 0 σ))
set_option maxHeartbeats 4000000 in
set_option maxRecDepth 100000 in
theorem w_X3_serveReached_2 {p : Program} {l : Launch} {e : Env} {R : Room} {s : State} {m : MethodId} {args : Array Value} {below : List Frame} {meth : Method} {c : Code} {D : va_G} {ad : Nat → Nat} {cI cJ cZ : ClassId} {res : SS} (hm : mx p s m args meth c cX3_serveReached 4 none wsX3_serveReached RX3) (hR : 5 ≤ R.frames ∧ 113 ≤ R.locals) (hK : va_K D vwCl (tyw cI cJ cZ) s) (hD : ∀ σ, va_D (aC ad) (wC ad cI cJ cZ σ)) : ∀ (n : Nat) (v1 : Int32) (σ : SS), p_X3_serveReached_2 n v1 σ = some res → ∀ (H : Heap) (locs : List Loc) (ls : Array Slot), va_P D vwCl (wC ad cI cJ cZ σ) H → va_S (aC ad) s.heap H locs → lv_has ls 4 [(0, .ref (ad 5)), (1, .int v1)] → W p l e R s m args below meth c H locs 0 0 (MQ below (va_Qv (fun (u : SS) => u = res) (fun u t => va_P D vwCl (wC ad cI cJ cZ u) t.heap) (aC ad)) args s 0 0 (aC ad)) (F0 m 2 ls []) := by
  obtain ⟨hx, hb, hr, hml, hown, hts, hlk⟩ := id hm
  intro n
  induction n with
  | zero =>
    intro _ _ hf
    cases hf
  | succ n hk2 =>
    intro v1 σ hf H locs ls hP hS hl
    rw [p_X3_serveReached_2] at hf
    try dsimp only at hf
    refine lv_iload_n hx hb dX3_serveReached_2 rfl (lv_at hl 1 rfl) ?_
    refine lv_aload_n hx hb dX3_serveReached_3 rfl (lv_at hl 0 rfl) ?_
    refine va_get (D := D) (ci := 2) (v := .ref (ad 2)) (C := RX3) (T := TX3) (N := 13) hx hb hts in_X3_serveReached_X3 hown hK hP 5 (wC_5 _ _ _ _ _) rfl 1 (by decide) (hts (.fieldLink RX3 31 "CallGraphs$Graph" "members" "LCallGraphs$Members;") (List.mem_of_getElem? (i := 1) rfl)) (fun _ h9 => h9) (fC_5_1 _ _) dX3_serveReached_4 ?_
    obtain ⟨r_7, hg_7, hf⟩ := oc_e hf
    refine mV_ri (wd := wC ad cI cJ cZ) (σ := σ) (As := []) (rest := [.int v1]) ⟨hx, hb, hml, hown, hts⟩ hK hP hD hS (c_X4_size l D ad cI cJ cZ σ hg_7) (cwV 0 hts gX3_serveReached_X4_size rfl rfl rfl hd_X4_size ⟨Nat.le_trans (Nat.le_of_ble_eq_true rfl) hR.1, Nat.le_trans (Nat.le_of_ble_eq_true rfl) hR.2⟩) rfl (wC_2 _ _ _ _ _) rfl hl.1 rfl (Nat.le_of_ble_eq_true rfl) dX3_serveReached_7 (fun H locs hP hS => ?_)
    refine lv_icmp_ge (tgt := 83) hx hb dX3_serveReached_10 (by decide) (fun c_10 => ?_) (fun c_10 => ?_)
    · rw [if_pos c_10] at hf
      exact rt_v (wd := wC ad cI cJ cZ) hx hb hr hlk (Option.some.inj hf) hP hS dX3_serveReached_83
    · rw [if_neg c_10] at hf
      refine lv_aload_n hx hb dX3_serveReached_13 rfl (lv_at hl 0 rfl) ?_
      refine va_get (D := D) (ci := 2) (v := .long (σ.2 5 9)) (C := RX3) (T := TX3) (N := 13) hx hb hts in_X3_serveReached_X3 hown hK hP 5 (wC_5 _ _ _ _ _) rfl 9 (by decide) (hts (.fieldLink RX3 69 "CallGraphs$Graph" "reached" "J") (List.mem_of_getElem? (i := 2) rfl)) (fun _ h9 => h9) (fC_5_9 _ _) dX3_serveReached_14 ?_
      refine lv_iload_n hx hb dX3_serveReached_17 rfl (lv_at hl 1 rfl) ?_
      obtain ⟨r_18, hg_18, hf⟩ := oc_e hf
      refine mS_i (D := D) (As := [.long (σ.2 5 9), .int v1]) (rest := []) ⟨hx, hb, hml, hown, hts⟩ hP hS (c_X0_has l (σ.2 5 9) v1 hg_18) (va_cwS 2 hts gX3_serveReached_X0_has rfl rfl rfl hd_X0_has ⟨Nat.le_trans (Nat.le_of_ble_eq_true rfl) hR.1, Nat.le_trans (Nat.le_of_ble_eq_true rfl) hR.2⟩) rfl hl.1 rfl (Nat.le_of_ble_eq_true rfl) dX3_serveReached_18 (fun H locs hP hS => ?_)
      refine lv_if_ne (tgt := 27) hx hb dX3_serveReached_21 (by decide) (fun c_21 => ?_) (fun c_21 => ?_)
      · rw [if_neg c_21] at hf
        refine lv_iconst (v := 0) hx hb dX3_serveReached_27 (by decide) ?_
        refine lv_istore_n (lv' := [(2, .int 0), (0, .ref (ad 5)), (1, .int v1)]) hx hb dX3_serveReached_28 rfl hl (by decide) rfl (fun ls hl => ?_)
        exact w_X3_serveReached_29 hm hR hK hD (p_X3_serveReached_2 n) hk2 100000 v1 0 σ hf _ _ _ hP hS (lv_sub hl [1, 2, 0] rfl)
      · rw [if_pos c_21] at hf
        refine lv_goto (tgt := 77) hx hb dX3_serveReached_24 (by decide) ?_
        exact w_X3_serveReached_77 hm hR hK hD (p_X3_serveReached_2 n) hk2 v1 σ hf _ _ _ hP hS (lv_sub hl [0, 1] rfl)
def p_X3_serveReached_0 (σ : SS) : Option (SS) := p_X3_serveReached_2 100000 0 σ
set_option maxHeartbeats 4000000 in
set_option maxRecDepth 100000 in
theorem w_X3_serveReached_0 {p : Program} {l : Launch} {e : Env} {R : Room} {s : State} {m : MethodId} {args : Array Value} {below : List Frame} {meth : Method} {c : Code} {D : va_G} {ad : Nat → Nat} {cI cJ cZ : ClassId} {res : SS} (hm : mx p s m args meth c cX3_serveReached 4 none wsX3_serveReached RX3) (hR : 5 ≤ R.frames ∧ 113 ≤ R.locals) (hK : va_K D vwCl (tyw cI cJ cZ) s) (hD : ∀ σ, va_D (aC ad) (wC ad cI cJ cZ σ)) (σ : SS) (hf : p_X3_serveReached_0 σ = some res) (H : Heap) (locs : List Loc) (ls : Array Slot) (hP : va_P D vwCl (wC ad cI cJ cZ σ) H) (hS : va_S (aC ad) s.heap H locs) (hl : lv_has ls 4 [(0, .ref (ad 5))]) : W p l e R s m args below meth c H locs 0 0 (MQ below (va_Qv (fun (u : SS) => u = res) (fun u t => va_P D vwCl (wC ad cI cJ cZ u) t.heap) (aC ad)) args s 0 0 (aC ad)) (F0 m 0 ls []) := by
  obtain ⟨hx, hb, hr, hml, hown, hts, hlk⟩ := id hm
  unfold p_X3_serveReached_0 at hf
  refine lv_iconst (v := 0) hx hb dX3_serveReached_0 (by decide) ?_
  refine lv_istore_n (lv' := [(1, .int 0), (0, .ref (ad 5))]) hx hb dX3_serveReached_1 rfl hl (by decide) rfl (fun ls hl => ?_)
  exact w_X3_serveReached_2 hm hR hK hD 100000 0 σ hf _ _ _ hP hS (lv_sub hl [1, 0] rfl)
theorem hd_X3_serveReached : yX3_serveReached.cls = RX3 ∧ yX3_serveReached.cls ≠ "java/lang/invoke/MethodHandle" ∧ yX3_serveReached.cls ≠ "java/lang/invoke/VarHandle" ∧ (parseMethodDescriptor yX3_serveReached.desc).map (fun d => d.parameters.length) = some 0 := by decide +kernel
set_option maxHeartbeats 4000000 in
set_option maxRecDepth 100000 in
theorem c_X3_serveReached (l : Launch) (D : va_G) (ad : Nat → Nat) (cI cJ cZ : ClassId) (σ : SS) {res : SS} (hf : p_X3_serveReached_0 σ = some res) : Met l yX3_serveReached wsX3_serveReached ({ frames := 5, cells := 0, slots := 0, locals := 113 } : Room) (PW D (tyw cI cJ cZ) (wC ad cI cJ cZ σ) [.ref (ad 5)]) (va_Qv (fun (u : SS) => u = res) (fun u t => va_P D vwCl (wC ad cI cJ cZ u) t.heap) (aC ad)) 0 0 (aC ad) := by
  refine Met.ofW (cc := cX3_serveReached) (maxL := 4) (ret := none) (by decide) rfl ?_
  intro p e s m args below meth c s₁ B hml hv
  obtain ⟨rfl, hP, hK, hD0⟩ := hv
  have hD : ∀ σ, va_D (aC ad) (wC ad cI cJ cZ σ) := fun σ => wd_D hD0 (wC_map _ _ _ _ _) (wC_map _ _ _ _ _)
  have hm : mx p s m _ meth c cX3_serveReached 4 none wsX3_serveReached RX3 := ⟨B.exec, B.bytes, B.returns, hml, findClass_of_methodNamed B.named, atoms_spec (ws := wsX3_serveReached) B.pre, B.notSynchronized⟩
  have hl := lv_entry ([.ref (ad 5)]) (n := 4) (Nat.le_of_ble_eq_true rfl)
  rw [lg_entry_eq]
  generalize (lg_sl ([.ref (ad 5)]) ++ List.replicate (4 - (lg_sl ([.ref (ad 5)])).length) Slot.unset).toArray = ls at hl ⊢
  exact w_X3_serveReached_0 hm ⟨Nat.le_refl _, Nat.le_refl _⟩ hK hD σ hf _ _ _ hP va_S.rf hl
/-! CallGraphs$Graph.sizeOfAll()I -/
theorem in_X3_sizeOfAll_X3 : ∀ w ∈ u_ws RX3 TX3 13, w ∈ wsX3_sizeOfAll := fun w h => List.mem_cons_of_mem _ (List.mem_append_right _ h)
def p_X3_sizeOfAll_26 (σ : SS) : Nat → Int32 → Int32 → Option (Int32)
  | 0, _, _ => none
  | n + 1, v1, v2 => let k26 := p_X3_sizeOfAll_26 σ n; if 4 ≤ v2 then some v1 else oi v2 4 (oc (p_J13_bitCount_95d88_0 (σ.2 24 v2.toNatClampNeg)) (fun r_38 => k26 (v1 + r_38) (v2 + 1)))
set_option maxHeartbeats 4000000 in
set_option maxRecDepth 100000 in
theorem w_X3_sizeOfAll_26 {p : Program} {l : Launch} {e : Env} {R : Room} {s : State} {m : MethodId} {args : Array Value} {below : List Frame} {meth : Method} {c : Code} {D : va_G} {ad : Nat → Nat} {cI cJ cZ : ClassId} {res : Int32} (hm : mx p s m args meth c cX3_sizeOfAll 3 (some .int) wsX3_sizeOfAll RX3) (hR : 1 ≤ R.frames ∧ 21 ≤ R.locals) (hK : va_K D vwCl (tyw cI cJ cZ) s) (hD : ∀ σ, va_D (aC ad) (wC ad cI cJ cZ σ)) (σ : SS) : ∀ (n : Nat) (v1 : Int32) (v2 : Int32), p_X3_sizeOfAll_26 σ n v1 v2 = some res → ∀ (H : Heap) (locs : List Loc) (ls : Array Slot), va_P D vwCl (wC ad cI cJ cZ σ) H → va_S (aC ad) s.heap H locs → lv_has ls 3 [(0, .ref (ad 5)), (1, .int v1), (2, .int v2)] → W p l e R s m args below meth c H locs 0 0 (MQ below (va_Qi (fun (r : Int32) (u : SS) => r = res ∧ u = σ) (fun u t => va_P D vwCl (wC ad cI cJ cZ u) t.heap) (aC ad)) args s 0 0 (aC ad)) (F0 m 26 ls []) := by
  obtain ⟨hx, hb, hr, hml, hown, hts, hlk⟩ := id hm
  intro n
  induction n with
  | zero =>
    intro _ _ hf
    cases hf
  | succ n hk26 =>
    intro v1 v2 hf H locs ls hP hS hl
    rw [p_X3_sizeOfAll_26] at hf
    try dsimp only at hf
    refine lv_iload_n hx hb dX3_sizeOfAll_26 rfl (lv_at hl 2 rfl) ?_
    refine lv_iconst (v := 4) hx hb dX3_sizeOfAll_27 (by decide) ?_
    refine lv_icmp_ge (tgt := 49) hx hb dX3_sizeOfAll_28 (by decide) (fun c_28 => ?_) (fun c_28 => ?_)
    · rw [if_pos c_28] at hf
      refine lv_iload_n hx hb dX3_sizeOfAll_49 rfl (lv_at hl 1 rfl) ?_
      exact rt_i (wd := wC ad cI cJ cZ) hx hb hr hlk ⟨Option.some.inj hf, rfl⟩ hP hS dX3_sizeOfAll_50
    · rw [if_neg c_28] at hf
      refine lv_iload_n hx hb dX3_sizeOfAll_31 rfl (lv_at hl 1 rfl) ?_
      refine lv_aload_n hx hb dX3_sizeOfAll_32 rfl (lv_at hl 0 rfl) ?_
      refine va_get (D := D) (ci := 2) (v := .ref (ad 24)) (C := RX3) (T := TX3) (N := 13) hx hb hts in_X3_sizeOfAll_X3 hown hK hP 5 (wC_5 _ _ _ _ _) rfl 4 (by decide) (hts (.fieldLink RX3 9 "CallGraphs$Graph" "bags" "[J") (List.mem_of_getElem? (i := 4) rfl)) (fun _ h9 => h9) (fC_5_4 _ _) dX3_sizeOfAll_33 ?_
      refine lv_iload_n hx hb dX3_sizeOfAll_36 rfl (lv_at hl 2 rfl) ?_
      obtain ⟨h_37, hf⟩ := oi_e hf
      refine va_lald hx hb hK hP 24 1 (wC_24 _ _ _ _ _) rfl h_37 dX3_sizeOfAll_37 ?_
      obtain ⟨r_38, hg_38, hf⟩ := oc_e hf
      refine mS_i (D := D) (As := [.long (σ.2 24 v2.toNatClampNeg)]) (rest := [.int v1]) ⟨hx, hb, hml, hown, hts⟩ hP hS (c_J13_bitCount_95d88 l (σ.2 24 v2.toNatClampNeg) hg_38) (va_cwS 1 hts gX3_sizeOfAll_J13_bitCount_95d88 rfl rfl rfl hd_J13_bitCount_95d88 ⟨Nat.le_trans (Nat.le_of_ble_eq_true rfl) hR.1, Nat.le_trans (Nat.le_of_ble_eq_true rfl) hR.2⟩) rfl hl.1 rfl (Nat.le_of_ble_eq_true rfl) dX3_sizeOfAll_38 (fun H locs hP hS => ?_)
      refine lv_iadd hx hb dX3_sizeOfAll_41 ?_
      refine lv_istore_n (lv' := [(1, .int (v1 + r_38)), (0, .ref (ad 5)), (2, .int v2)]) hx hb dX3_sizeOfAll_42 rfl hl (by decide) rfl (fun ls hl => ?_)
      refine lv_iinc (v := (v2 + 1)) (lv' := [(2, .int (v2 + 1)), (1, .int (v1 + r_38)), (0, .ref (ad 5))]) hx hb dX3_sizeOfAll_43 hl (k := 2) rfl rfl (by decide) rfl (fun ls hl => ?_)
      refine lv_goto (tgt := 26) hx hb dX3_sizeOfAll_46 (by decide) ?_
      exact hk26 (v1 + r_38) (v2 + 1) hf _ _ _ hP hS (lv_sub hl [2, 1, 0] rfl)
def p_X3_sizeOfAll_0 (σ : SS) : Option (Int32) := oc (p_J13_bitCount_95d88_0 (σ.2 5 9)) (fun r_4 => oc (p_J13_bitCount_95d88_0 (σ.2 5 10)) (fun r_11 => oc (p_J13_bitCount_95d88_0 (σ.2 5 11)) (fun r_19 => p_X3_sizeOfAll_26 σ 100000 ((r_4 + r_11) + r_19) 0)))
set_option maxHeartbeats 4000000 in
set_option maxRecDepth 100000 in
theorem w_X3_sizeOfAll_0 {p : Program} {l : Launch} {e : Env} {R : Room} {s : State} {m : MethodId} {args : Array Value} {below : List Frame} {meth : Method} {c : Code} {D : va_G} {ad : Nat → Nat} {cI cJ cZ : ClassId} {res : Int32} (hm : mx p s m args meth c cX3_sizeOfAll 3 (some .int) wsX3_sizeOfAll RX3) (hR : 1 ≤ R.frames ∧ 21 ≤ R.locals) (hK : va_K D vwCl (tyw cI cJ cZ) s) (hD : ∀ σ, va_D (aC ad) (wC ad cI cJ cZ σ)) (σ : SS) (hf : p_X3_sizeOfAll_0 σ = some res) (H : Heap) (locs : List Loc) (ls : Array Slot) (hP : va_P D vwCl (wC ad cI cJ cZ σ) H) (hS : va_S (aC ad) s.heap H locs) (hl : lv_has ls 3 [(0, .ref (ad 5))]) : W p l e R s m args below meth c H locs 0 0 (MQ below (va_Qi (fun (r : Int32) (u : SS) => r = res ∧ u = σ) (fun u t => va_P D vwCl (wC ad cI cJ cZ u) t.heap) (aC ad)) args s 0 0 (aC ad)) (F0 m 0 ls []) := by
  obtain ⟨hx, hb, hr, hml, hown, hts, hlk⟩ := id hm
  unfold p_X3_sizeOfAll_0 at hf
  refine lv_aload_n hx hb dX3_sizeOfAll_0 rfl (lv_at hl 0 rfl) ?_
  refine va_get (D := D) (ci := 2) (v := .long (σ.2 5 9)) (C := RX3) (T := TX3) (N := 13) hx hb hts in_X3_sizeOfAll_X3 hown hK hP 5 (wC_5 _ _ _ _ _) rfl 9 (by decide) (hts (.fieldLink RX3 69 "CallGraphs$Graph" "reached" "J") (List.mem_of_getElem? (i := 1) rfl)) (fun _ h9 => h9) (fC_5_9 _ _) dX3_sizeOfAll_1 ?_
  obtain ⟨r_4, hg_4, hf⟩ := oc_e hf
  refine mS_i (D := D) (As := [.long (σ.2 5 9)]) (rest := []) ⟨hx, hb, hml, hown, hts⟩ hP hS (c_J13_bitCount_95d88 l (σ.2 5 9) hg_4) (va_cwS 1 hts gX3_sizeOfAll_J13_bitCount_95d88 rfl rfl rfl hd_J13_bitCount_95d88 ⟨Nat.le_trans (Nat.le_of_ble_eq_true rfl) hR.1, Nat.le_trans (Nat.le_of_ble_eq_true rfl) hR.2⟩) rfl hl.1 rfl (Nat.le_of_ble_eq_true rfl) dX3_sizeOfAll_4 (fun H locs hP hS => ?_)
  refine lv_aload_n hx hb dX3_sizeOfAll_7 rfl (lv_at hl 0 rfl) ?_
  refine va_get (D := D) (ci := 2) (v := .long (σ.2 5 10)) (C := RX3) (T := TX3) (N := 13) hx hb hts in_X3_sizeOfAll_X3 hown hK hP 5 (wC_5 _ _ _ _ _) rfl 10 (by decide) (hts (.fieldLink RX3 73 "CallGraphs$Graph" "made" "J") (List.mem_of_getElem? (i := 2) rfl)) (fun _ h9 => h9) (fC_5_10 _ _) dX3_sizeOfAll_8 ?_
  obtain ⟨r_11, hg_11, hf⟩ := oc_e hf
  refine mS_i (D := D) (As := [.long (σ.2 5 10)]) (rest := [.int r_4]) ⟨hx, hb, hml, hown, hts⟩ hP hS (c_J13_bitCount_95d88 l (σ.2 5 10) hg_11) (va_cwS 1 hts gX3_sizeOfAll_J13_bitCount_95d88 rfl rfl rfl hd_J13_bitCount_95d88 ⟨Nat.le_trans (Nat.le_of_ble_eq_true rfl) hR.1, Nat.le_trans (Nat.le_of_ble_eq_true rfl) hR.2⟩) rfl hl.1 rfl (Nat.le_of_ble_eq_true rfl) dX3_sizeOfAll_11 (fun H locs hP hS => ?_)
  refine lv_iadd hx hb dX3_sizeOfAll_14 ?_
  refine lv_aload_n hx hb dX3_sizeOfAll_15 rfl (lv_at hl 0 rfl) ?_
  refine va_get (D := D) (ci := 2) (v := .long (σ.2 5 11)) (C := RX3) (T := TX3) (N := 13) hx hb hts in_X3_sizeOfAll_X3 hown hK hP 5 (wC_5 _ _ _ _ _) rfl 11 (by decide) (hts (.fieldLink RX3 76 "CallGraphs$Graph" "begun" "J") (List.mem_of_getElem? (i := 3) rfl)) (fun _ h9 => h9) (fC_5_11 _ _) dX3_sizeOfAll_16 ?_
  obtain ⟨r_19, hg_19, hf⟩ := oc_e hf
  refine mS_i (D := D) (As := [.long (σ.2 5 11)]) (rest := [.int (r_4 + r_11)]) ⟨hx, hb, hml, hown, hts⟩ hP hS (c_J13_bitCount_95d88 l (σ.2 5 11) hg_19) (va_cwS 1 hts gX3_sizeOfAll_J13_bitCount_95d88 rfl rfl rfl hd_J13_bitCount_95d88 ⟨Nat.le_trans (Nat.le_of_ble_eq_true rfl) hR.1, Nat.le_trans (Nat.le_of_ble_eq_true rfl) hR.2⟩) rfl hl.1 rfl (Nat.le_of_ble_eq_true rfl) dX3_sizeOfAll_19 (fun H locs hP hS => ?_)
  refine lv_iadd hx hb dX3_sizeOfAll_22 ?_
  refine lv_istore_n (lv' := [(1, .int ((r_4 + r_11) + r_19)), (0, .ref (ad 5))]) hx hb dX3_sizeOfAll_23 rfl hl (by decide) rfl (fun ls hl => ?_)
  refine lv_iconst (v := 0) hx hb dX3_sizeOfAll_24 (by decide) ?_
  refine lv_istore_n (lv' := [(2, .int 0), (1, .int ((r_4 + r_11) + r_19)), (0, .ref (ad 5))]) hx hb dX3_sizeOfAll_25 rfl hl (by decide) rfl (fun ls hl => ?_)
  exact w_X3_sizeOfAll_26 hm hR hK hD σ 100000 ((r_4 + r_11) + r_19) 0 hf _ _ _ hP hS (lv_sub hl [2, 1, 0] rfl)
theorem hd_X3_sizeOfAll : yX3_sizeOfAll.cls = RX3 ∧ yX3_sizeOfAll.cls ≠ "java/lang/invoke/MethodHandle" ∧ yX3_sizeOfAll.cls ≠ "java/lang/invoke/VarHandle" ∧ (parseMethodDescriptor yX3_sizeOfAll.desc).map (fun d => d.parameters.length) = some 0 := by decide +kernel
set_option maxHeartbeats 4000000 in
set_option maxRecDepth 100000 in
theorem c_X3_sizeOfAll (l : Launch) (D : va_G) (ad : Nat → Nat) (cI cJ cZ : ClassId) (σ : SS) {res : Int32} (hf : p_X3_sizeOfAll_0 σ = some res) : Met l yX3_sizeOfAll wsX3_sizeOfAll ({ frames := 1, cells := 0, slots := 0, locals := 21 } : Room) (PW D (tyw cI cJ cZ) (wC ad cI cJ cZ σ) [.ref (ad 5)]) (va_Qi (fun (r : Int32) (u : SS) => r = res ∧ u = σ) (fun u t => va_P D vwCl (wC ad cI cJ cZ u) t.heap) (aC ad)) 0 0 (aC ad) := by
  refine Met.ofW (cc := cX3_sizeOfAll) (maxL := 3) (ret := (some .int)) (by decide) rfl ?_
  intro p e s m args below meth c s₁ B hml hv
  obtain ⟨rfl, hP, hK, hD0⟩ := hv
  have hD : ∀ σ, va_D (aC ad) (wC ad cI cJ cZ σ) := fun σ => wd_D hD0 (wC_map _ _ _ _ _) (wC_map _ _ _ _ _)
  have hm : mx p s m _ meth c cX3_sizeOfAll 3 (some .int) wsX3_sizeOfAll RX3 := ⟨B.exec, B.bytes, B.returns, hml, findClass_of_methodNamed B.named, atoms_spec (ws := wsX3_sizeOfAll) B.pre, B.notSynchronized⟩
  have hl := lv_entry ([.ref (ad 5)]) (n := 3) (Nat.le_of_ble_eq_true rfl)
  rw [lg_entry_eq]
  generalize (lg_sl ([.ref (ad 5)]) ++ List.replicate (3 - (lg_sl ([.ref (ad 5)])).length) Slot.unset).toArray = ls at hl ⊢
  exact w_X3_sizeOfAll_0 hm ⟨Nat.le_refl _, Nat.le_refl _⟩ hK hD σ hf _ _ _ hP va_S.rf hl
/-! CallGraphs$Graph.refresh()V -/
theorem in_X3_refresh_X3 : ∀ w ∈ u_ws RX3 TX3 13, w ∈ wsX3_refresh := fun w h => List.mem_cons_of_mem _ (List.mem_append_left _ (List.mem_append_left _ (List.mem_append_left _ (List.mem_append_left _ (List.mem_append_right _ h)))))
def p_X3_refresh_46 (σ : SS) : Option (SS) := oc (p_X3_joinCalls_0 σ) (fun r_47 => oc (p_X3_closeCalls_0 r_47) (fun r_51 => os (sI r_51 5 12 1) (fun s_56 => some s_56)))
set_option maxHeartbeats 4000000 in
set_option maxRecDepth 100000 in
theorem w_X3_refresh_46 {p : Program} {l : Launch} {e : Env} {R : Room} {s : State} {m : MethodId} {args : Array Value} {below : List Frame} {meth : Method} {c : Code} {D : va_G} {ad : Nat → Nat} {cI cJ cZ : ClassId} {res : SS} (hm : mx p s m args meth c cX3_refresh 3 none wsX3_refresh RX3) (hR : 6 ≤ R.frames ∧ 136 ≤ R.locals) (hK : va_K D vwCl (tyw cI cJ cZ) s) (hD : ∀ σ, va_D (aC ad) (wC ad cI cJ cZ σ)) (σ : SS) (hf : p_X3_refresh_46 σ = some res) (H : Heap) (locs : List Loc) (ls : Array Slot) (hP : va_P D vwCl (wC ad cI cJ cZ σ) H) (hS : va_S (aC ad) s.heap H locs) (hl : lv_has ls 3 [(0, .ref (ad 5))]) : W p l e R s m args below meth c H locs 0 0 (MQ below (va_Qv (fun (u : SS) => u = res) (fun u t => va_P D vwCl (wC ad cI cJ cZ u) t.heap) (aC ad)) args s 0 0 (aC ad)) (F0 m 46 ls []) := by
  obtain ⟨hx, hb, hr, hml, hown, hts, hlk⟩ := id hm
  unfold p_X3_refresh_46 at hf
  refine lv_aload_n hx hb dX3_refresh_46 rfl (lv_at hl 0 rfl) ?_
  obtain ⟨r_47, hg_47, hf⟩ := oc_e hf
  refine mV_wv (wd := wC ad cI cJ cZ) (σ := σ) (As := []) (rest := []) ⟨hx, hb, hml, hown, hts⟩ hK hP hD hS (c_X3_joinCalls l D ad cI cJ cZ σ hg_47) (cwV 0 hts gX3_refresh_X3_joinCalls rfl rfl rfl hd_X3_joinCalls ⟨Nat.le_trans (Nat.le_of_ble_eq_true rfl) hR.1, Nat.le_trans (Nat.le_of_ble_eq_true rfl) hR.2⟩) rfl (wC_5 _ _ _ _ _) rfl hl.1 rfl (Nat.le_of_ble_eq_true rfl) dX3_refresh_47 (fun H locs hP hS => ?_)
  refine lv_aload_n hx hb dX3_refresh_50 rfl (lv_at hl 0 rfl) ?_
  obtain ⟨r_51, hg_51, hf⟩ := oc_e hf
  refine mV_wv (wd := wC ad cI cJ cZ) (σ := r_47) (As := []) (rest := []) ⟨hx, hb, hml, hown, hts⟩ hK hP hD hS (c_X3_closeCalls l D ad cI cJ cZ r_47 hg_51) (cwV 0 hts gX3_refresh_X3_closeCalls rfl rfl rfl hd_X3_closeCalls ⟨Nat.le_trans (Nat.le_of_ble_eq_true rfl) hR.1, Nat.le_trans (Nat.le_of_ble_eq_true rfl) hR.2⟩) rfl (wC_5 _ _ _ _ _) rfl hl.1 rfl (Nat.le_of_ble_eq_true rfl) dX3_refresh_51 (fun H locs hP hS => ?_)
  refine lv_aload_n hx hb dX3_refresh_54 rfl (lv_at hl 0 rfl) ?_
  refine lv_iconst (v := 1) hx hb dX3_refresh_55 (by decide) ?_
  refine va_put (D := D) (ci := 2) (v := .int 1) (ty := .boolean) (C := RX3) (T := TX3) (N := 13) hx hb hts in_X3_refresh_X3 tyX3 tyX3_ok nmX3 hown hK hP (hD _) hS 5 (wC_5 _ _ _ _ _) rfl 12 (by decide) (hts (.fieldLink RX3 43 "CallGraphs$Graph" "fresh" "Z") (List.mem_of_getElem? (i := 1) rfl)) (fun _ h9 => h9) rfl (tyX3_ok 12 (by decide)) (nb_n (Or.inr rfl)) (nb_f (Or.inr rfl)) (Nat.le_of_ble_eq_true rfl) dX3_refresh_56 (fun H locs hP _ hS => ?_)
  have hP := wC_p5_12 hP
  obtain ⟨s_56, es_56, hf⟩ := os_e hf
  rw [← es_56] at hP
  exact rt_v (wd := wC ad cI cJ cZ) hx hb hr hlk (Option.some.inj hf) hP hS dX3_refresh_59
def p_X3_refresh_16 : Nat → Int32 → Int32 → SS → Option (SS)
  | 0, _, _, _ => none
  | n + 1, v1, v2, σ => let k16 := p_X3_refresh_16 n; if 273 ≤ v2 then p_X3_refresh_46 σ else oc (p_X3_sizeOfAll_0 σ) (fun r_25 => if v1 = r_25 then p_X3_refresh_46 σ else oc (p_X3_sizeOfAll_0 σ) (fun r_32 => oc (p_X3_serveReached_0 σ) (fun r_37 => k16 r_32 (v2 + 1) r_37)))
set_option maxHeartbeats 4000000 in
set_option maxRecDepth 100000 in
theorem w_X3_refresh_16 {p : Program} {l : Launch} {e : Env} {R : Room} {s : State} {m : MethodId} {args : Array Value} {below : List Frame} {meth : Method} {c : Code} {D : va_G} {ad : Nat → Nat} {cI cJ cZ : ClassId} {res : SS} (hm : mx p s m args meth c cX3_refresh 3 none wsX3_refresh RX3) (hR : 6 ≤ R.frames ∧ 136 ≤ R.locals) (hK : va_K D vwCl (tyw cI cJ cZ) s) (hD : ∀ σ, va_D (aC ad) (wC ad cI cJ cZ σ)) : ∀ (n : Nat) (v1 : Int32) (v2 : Int32) (σ : SS), p_X3_refresh_16 n v1 v2 σ = some res → ∀ (H : Heap) (locs : List Loc) (ls : Array Slot), va_P D vwCl (wC ad cI cJ cZ σ) H → va_S (aC ad) s.heap H locs → lv_has ls 3 [(0, .ref (ad 5)), (1, .int v1), (2, .int v2)] → W p l e R s m args below meth c H locs 0 0 (MQ below (va_Qv (fun (u : SS) => u = res) (fun u t => va_P D vwCl (wC ad cI cJ cZ u) t.heap) (aC ad)) args s 0 0 (aC ad)) (F0 m 16 ls []) := by
  obtain ⟨hx, hb, hr, hml, hown, hts, hlk⟩ := id hm
  intro n
  induction n with
  | zero =>
    intro _ _ _ hf
    cases hf
  | succ n hk16 =>
    intro v1 v2 σ hf H locs ls hP hS hl
    rw [p_X3_refresh_16] at hf
    try dsimp only at hf
    refine lv_iload_n hx hb dX3_refresh_16 rfl (lv_at hl 2 rfl) ?_
    refine lv_sipush (v := 273) hx hb dX3_refresh_17 (by decide) ?_
    refine lv_icmp_ge (tgt := 46) hx hb dX3_refresh_20 (by decide) (fun c_20 => ?_) (fun c_20 => ?_)
    · rw [if_pos c_20] at hf
      exact w_X3_refresh_46 hm hR hK hD σ hf _ _ _ hP hS (lv_sub hl [0] rfl)
    · rw [if_neg c_20] at hf
      refine lv_iload_n hx hb dX3_refresh_23 rfl (lv_at hl 1 rfl) ?_
      refine lv_aload_n hx hb dX3_refresh_24 rfl (lv_at hl 0 rfl) ?_
      obtain ⟨r_25, hg_25, hf⟩ := oc_e hf
      refine mV_ri (wd := wC ad cI cJ cZ) (σ := σ) (As := []) (rest := [.int v1]) ⟨hx, hb, hml, hown, hts⟩ hK hP hD hS (c_X3_sizeOfAll l D ad cI cJ cZ σ hg_25) (cwV 0 hts gX3_refresh_X3_sizeOfAll rfl rfl rfl hd_X3_sizeOfAll ⟨Nat.le_trans (Nat.le_of_ble_eq_true rfl) hR.1, Nat.le_trans (Nat.le_of_ble_eq_true rfl) hR.2⟩) rfl (wC_5 _ _ _ _ _) rfl hl.1 rfl (Nat.le_of_ble_eq_true rfl) dX3_refresh_25 (fun H locs hP hS => ?_)
      refine lv_icmp_eq (tgt := 46) hx hb dX3_refresh_28 (by decide) (fun c_28 => ?_) (fun c_28 => ?_)
      · rw [if_pos c_28] at hf
        exact w_X3_refresh_46 hm hR hK hD σ hf _ _ _ hP hS (lv_sub hl [0] rfl)
      · rw [if_neg c_28] at hf
        refine lv_aload_n hx hb dX3_refresh_31 rfl (lv_at hl 0 rfl) ?_
        obtain ⟨r_32, hg_32, hf⟩ := oc_e hf
        refine mV_ri (wd := wC ad cI cJ cZ) (σ := σ) (As := []) (rest := []) ⟨hx, hb, hml, hown, hts⟩ hK hP hD hS (c_X3_sizeOfAll l D ad cI cJ cZ σ hg_32) (cwV 0 hts gX3_refresh_X3_sizeOfAll rfl rfl rfl hd_X3_sizeOfAll ⟨Nat.le_trans (Nat.le_of_ble_eq_true rfl) hR.1, Nat.le_trans (Nat.le_of_ble_eq_true rfl) hR.2⟩) rfl (wC_5 _ _ _ _ _) rfl hl.1 rfl (Nat.le_of_ble_eq_true rfl) dX3_refresh_32 (fun H locs hP hS => ?_)
        refine lv_istore_n (lv' := [(1, .int r_32), (0, .ref (ad 5)), (2, .int v2)]) hx hb dX3_refresh_35 rfl hl (by decide) rfl (fun ls hl => ?_)
        refine lv_aload_n hx hb dX3_refresh_36 rfl (lv_at hl 1 rfl) ?_
        obtain ⟨r_37, hg_37, hf⟩ := oc_e hf
        refine mV_wv (wd := wC ad cI cJ cZ) (σ := σ) (As := []) (rest := []) ⟨hx, hb, hml, hown, hts⟩ hK hP hD hS (c_X3_serveReached l D ad cI cJ cZ σ hg_37) (cwV 0 hts gX3_refresh_X3_serveReached rfl rfl rfl hd_X3_serveReached ⟨Nat.le_trans (Nat.le_of_ble_eq_true rfl) hR.1, Nat.le_trans (Nat.le_of_ble_eq_true rfl) hR.2⟩) rfl (wC_5 _ _ _ _ _) rfl hl.1 rfl (Nat.le_of_ble_eq_true rfl) dX3_refresh_37 (fun H locs hP hS => ?_)
        refine lv_iinc (v := (v2 + 1)) (lv' := [(2, .int (v2 + 1)), (1, .int r_32), (0, .ref (ad 5))]) hx hb dX3_refresh_40 hl (k := 2) rfl rfl (by decide) rfl (fun ls hl => ?_)
        refine lv_goto (tgt := 16) hx hb dX3_refresh_43 (by decide) ?_
        exact hk16 r_32 (v2 + 1) r_37 hf _ _ _ hP hS (lv_sub hl [2, 1, 0] rfl)
def p_X3_refresh_0 (σ : SS) : Option (SS) := if (σ.1 5 12) = 0 then oc (p_X3_clear_0 σ) (fun r_9 => p_X3_refresh_16 100000 (-1) 0 r_9) else some σ
set_option maxHeartbeats 4000000 in
set_option maxRecDepth 100000 in
theorem w_X3_refresh_0 {p : Program} {l : Launch} {e : Env} {R : Room} {s : State} {m : MethodId} {args : Array Value} {below : List Frame} {meth : Method} {c : Code} {D : va_G} {ad : Nat → Nat} {cI cJ cZ : ClassId} {res : SS} (hm : mx p s m args meth c cX3_refresh 3 none wsX3_refresh RX3) (hR : 6 ≤ R.frames ∧ 136 ≤ R.locals) (hK : va_K D vwCl (tyw cI cJ cZ) s) (hD : ∀ σ, va_D (aC ad) (wC ad cI cJ cZ σ)) (σ : SS) (hf : p_X3_refresh_0 σ = some res) (H : Heap) (locs : List Loc) (ls : Array Slot) (hP : va_P D vwCl (wC ad cI cJ cZ σ) H) (hS : va_S (aC ad) s.heap H locs) (hl : lv_has ls 3 [(0, .ref (ad 5))]) : W p l e R s m args below meth c H locs 0 0 (MQ below (va_Qv (fun (u : SS) => u = res) (fun u t => va_P D vwCl (wC ad cI cJ cZ u) t.heap) (aC ad)) args s 0 0 (aC ad)) (F0 m 0 ls []) := by
  obtain ⟨hx, hb, hr, hml, hown, hts, hlk⟩ := id hm
  unfold p_X3_refresh_0 at hf
  refine lv_aload_n hx hb dX3_refresh_0 rfl (lv_at hl 0 rfl) ?_
  refine va_get (D := D) (ci := 2) (v := .int (σ.1 5 12)) (C := RX3) (T := TX3) (N := 13) hx hb hts in_X3_refresh_X3 hown hK hP 5 (wC_5 _ _ _ _ _) rfl 12 (by decide) (hts (.fieldLink RX3 43 "CallGraphs$Graph" "fresh" "Z") (List.mem_of_getElem? (i := 1) rfl)) (fun _ h9 => h9) (fC_5_12 _ _) dX3_refresh_1 ?_
  refine lv_if_eq (tgt := 8) hx hb dX3_refresh_4 (by decide) (fun c_4 => ?_) (fun c_4 => ?_)
  · rw [if_pos c_4] at hf
    refine lv_aload_n hx hb dX3_refresh_8 rfl (lv_at hl 0 rfl) ?_
    obtain ⟨r_9, hg_9, hf⟩ := oc_e hf
    refine mV_wv (wd := wC ad cI cJ cZ) (σ := σ) (As := []) (rest := []) ⟨hx, hb, hml, hown, hts⟩ hK hP hD hS (c_X3_clear l D ad cI cJ cZ σ hg_9) (cwV 0 hts gX3_refresh_X3_clear rfl rfl rfl hd_X3_clear ⟨Nat.le_trans (Nat.le_of_ble_eq_true rfl) hR.1, Nat.le_trans (Nat.le_of_ble_eq_true rfl) hR.2⟩) rfl (wC_5 _ _ _ _ _) rfl hl.1 rfl (Nat.le_of_ble_eq_true rfl) dX3_refresh_9 (fun H locs hP hS => ?_)
    refine lv_iconst (v := (-1)) hx hb dX3_refresh_12 (by decide) ?_
    refine lv_istore_n (lv' := [(1, .int (-1)), (0, .ref (ad 5))]) hx hb dX3_refresh_13 rfl hl (by decide) rfl (fun ls hl => ?_)
    refine lv_iconst (v := 0) hx hb dX3_refresh_14 (by decide) ?_
    refine lv_istore_n (lv' := [(2, .int 0), (1, .int (-1)), (0, .ref (ad 5))]) hx hb dX3_refresh_15 rfl hl (by decide) rfl (fun ls hl => ?_)
    exact w_X3_refresh_16 hm hR hK hD 100000 (-1) 0 r_9 hf _ _ _ hP hS (lv_sub hl [2, 1, 0] rfl)
  · rw [if_neg c_4] at hf
    exact rt_v (wd := wC ad cI cJ cZ) hx hb hr hlk (Option.some.inj hf) hP hS dX3_refresh_7
theorem hd_X3_refresh : yX3_refresh.cls = RX3 ∧ yX3_refresh.cls ≠ "java/lang/invoke/MethodHandle" ∧ yX3_refresh.cls ≠ "java/lang/invoke/VarHandle" ∧ (parseMethodDescriptor yX3_refresh.desc).map (fun d => d.parameters.length) = some 0 := by decide +kernel
set_option maxHeartbeats 4000000 in
set_option maxRecDepth 100000 in
theorem c_X3_refresh (l : Launch) (D : va_G) (ad : Nat → Nat) (cI cJ cZ : ClassId) (σ : SS) {res : SS} (hf : p_X3_refresh_0 σ = some res) : Met l yX3_refresh wsX3_refresh ({ frames := 6, cells := 0, slots := 0, locals := 136 } : Room) (PW D (tyw cI cJ cZ) (wC ad cI cJ cZ σ) [.ref (ad 5)]) (va_Qv (fun (u : SS) => u = res) (fun u t => va_P D vwCl (wC ad cI cJ cZ u) t.heap) (aC ad)) 0 0 (aC ad) := by
  refine Met.ofW (cc := cX3_refresh) (maxL := 3) (ret := none) (by decide) rfl ?_
  intro p e s m args below meth c s₁ B hml hv
  obtain ⟨rfl, hP, hK, hD0⟩ := hv
  have hD : ∀ σ, va_D (aC ad) (wC ad cI cJ cZ σ) := fun σ => wd_D hD0 (wC_map _ _ _ _ _) (wC_map _ _ _ _ _)
  have hm : mx p s m _ meth c cX3_refresh 3 none wsX3_refresh RX3 := ⟨B.exec, B.bytes, B.returns, hml, findClass_of_methodNamed B.named, atoms_spec (ws := wsX3_refresh) B.pre, B.notSynchronized⟩
  have hl := lv_entry ([.ref (ad 5)]) (n := 3) (Nat.le_of_ble_eq_true rfl)
  rw [lg_entry_eq]
  generalize (lg_sl ([.ref (ad 5)]) ++ List.replicate (3 - (lg_sl ([.ref (ad 5)])).length) Slot.unset).toArray = ls at hl ⊢
  exact w_X3_refresh_0 hm ⟨Nat.le_refl _, Nat.le_refl _⟩ hK hD σ hf _ _ _ hP va_S.rf hl
/-! CallGraphs$Graph.reached()J -/
theorem in_X3_reached_X3 : ∀ w ∈ u_ws RX3 TX3 13, w ∈ wsX3_reached := fun w h => List.mem_cons_of_mem _ (List.mem_append_right _ h)
def p_X3_reached_0 (σ : SS) : Option (Int64) := some (σ.2 5 9)
set_option maxHeartbeats 4000000 in
set_option maxRecDepth 100000 in
theorem w_X3_reached_0 {p : Program} {l : Launch} {e : Env} {R : Room} {s : State} {m : MethodId} {args : Array Value} {below : List Frame} {meth : Method} {c : Code} {D : va_G} {ad : Nat → Nat} {cI cJ cZ : ClassId} {res : Int64} (hm : mx p s m args meth c cX3_reached 1 (some .long) wsX3_reached RX3) (hR : 0 ≤ R.frames ∧ 0 ≤ R.locals) (hK : va_K D vwCl (tyw cI cJ cZ) s) (hD : ∀ σ, va_D (aC ad) (wC ad cI cJ cZ σ)) (σ : SS) (hf : p_X3_reached_0 σ = some res) (H : Heap) (locs : List Loc) (ls : Array Slot) (hP : va_P D vwCl (wC ad cI cJ cZ σ) H) (hS : va_S (aC ad) s.heap H locs) (hl : lv_has ls 1 [(0, .ref (ad 5))]) : W p l e R s m args below meth c H locs 0 0 (MQ below (va_Ql (fun (r : Int64) (u : SS) => r = res ∧ u = σ) (fun u t => va_P D vwCl (wC ad cI cJ cZ u) t.heap) (aC ad)) args s 0 0 (aC ad)) (F0 m 0 ls []) := by
  obtain ⟨hx, hb, hr, hml, hown, hts, hlk⟩ := id hm
  unfold p_X3_reached_0 at hf
  refine lv_aload_n hx hb dX3_reached_0 rfl (lv_at hl 0 rfl) ?_
  refine va_get (D := D) (ci := 2) (v := .long (σ.2 5 9)) (C := RX3) (T := TX3) (N := 13) hx hb hts in_X3_reached_X3 hown hK hP 5 (wC_5 _ _ _ _ _) rfl 9 (by decide) (hts (.fieldLink RX3 69 "CallGraphs$Graph" "reached" "J") (List.mem_of_getElem? (i := 1) rfl)) (fun _ h9 => h9) (fC_5_9 _ _) dX3_reached_1 ?_
  exact rt_l (wd := wC ad cI cJ cZ) hx hb hr hlk ⟨Option.some.inj hf, rfl⟩ hP hS dX3_reached_4
theorem hd_X3_reached : yX3_reached.cls = RX3 ∧ yX3_reached.cls ≠ "java/lang/invoke/MethodHandle" ∧ yX3_reached.cls ≠ "java/lang/invoke/VarHandle" ∧ (parseMethodDescriptor yX3_reached.desc).map (fun d => d.parameters.length) = some 0 := by decide +kernel
set_option maxHeartbeats 4000000 in
set_option maxRecDepth 100000 in
theorem c_X3_reached (l : Launch) (D : va_G) (ad : Nat → Nat) (cI cJ cZ : ClassId) (σ : SS) {res : Int64} (hf : p_X3_reached_0 σ = some res) : Met l yX3_reached wsX3_reached ({ frames := 0, cells := 0, slots := 0, locals := 0 } : Room) (PW D (tyw cI cJ cZ) (wC ad cI cJ cZ σ) [.ref (ad 5)]) (va_Ql (fun (r : Int64) (u : SS) => r = res ∧ u = σ) (fun u t => va_P D vwCl (wC ad cI cJ cZ u) t.heap) (aC ad)) 0 0 (aC ad) := by
  refine Met.ofW (cc := cX3_reached) (maxL := 1) (ret := (some .long)) (by decide) rfl ?_
  intro p e s m args below meth c s₁ B hml hv
  obtain ⟨rfl, hP, hK, hD0⟩ := hv
  have hD : ∀ σ, va_D (aC ad) (wC ad cI cJ cZ σ) := fun σ => wd_D hD0 (wC_map _ _ _ _ _) (wC_map _ _ _ _ _)
  have hm : mx p s m _ meth c cX3_reached 1 (some .long) wsX3_reached RX3 := ⟨B.exec, B.bytes, B.returns, hml, findClass_of_methodNamed B.named, atoms_spec (ws := wsX3_reached) B.pre, B.notSynchronized⟩
  have hl := lv_entry ([.ref (ad 5)]) (n := 1) (Nat.le_of_ble_eq_true rfl)
  rw [lg_entry_eq]
  generalize (lg_sl ([.ref (ad 5)]) ++ List.replicate (1 - (lg_sl ([.ref (ad 5)])).length) Slot.unset).toArray = ls at hl ⊢
  exact w_X3_reached_0 hm ⟨Nat.le_refl _, Nat.le_refl _⟩ hK hD σ hf _ _ _ hP va_S.rf hl
/-! CallGraphs$Graph.madeClasses()J -/
theorem in_X3_madeClasses_X3 : ∀ w ∈ u_ws RX3 TX3 13, w ∈ wsX3_madeClasses := fun w h => List.mem_cons_of_mem _ (List.mem_append_right _ h)
def p_X3_madeClasses_0 (σ : SS) : Option (Int64) := some (σ.2 5 10)
set_option maxHeartbeats 4000000 in
set_option maxRecDepth 100000 in
theorem w_X3_madeClasses_0 {p : Program} {l : Launch} {e : Env} {R : Room} {s : State} {m : MethodId} {args : Array Value} {below : List Frame} {meth : Method} {c : Code} {D : va_G} {ad : Nat → Nat} {cI cJ cZ : ClassId} {res : Int64} (hm : mx p s m args meth c cX3_madeClasses 1 (some .long) wsX3_madeClasses RX3) (hR : 0 ≤ R.frames ∧ 0 ≤ R.locals) (hK : va_K D vwCl (tyw cI cJ cZ) s) (hD : ∀ σ, va_D (aC ad) (wC ad cI cJ cZ σ)) (σ : SS) (hf : p_X3_madeClasses_0 σ = some res) (H : Heap) (locs : List Loc) (ls : Array Slot) (hP : va_P D vwCl (wC ad cI cJ cZ σ) H) (hS : va_S (aC ad) s.heap H locs) (hl : lv_has ls 1 [(0, .ref (ad 5))]) : W p l e R s m args below meth c H locs 0 0 (MQ below (va_Ql (fun (r : Int64) (u : SS) => r = res ∧ u = σ) (fun u t => va_P D vwCl (wC ad cI cJ cZ u) t.heap) (aC ad)) args s 0 0 (aC ad)) (F0 m 0 ls []) := by
  obtain ⟨hx, hb, hr, hml, hown, hts, hlk⟩ := id hm
  unfold p_X3_madeClasses_0 at hf
  refine lv_aload_n hx hb dX3_madeClasses_0 rfl (lv_at hl 0 rfl) ?_
  refine va_get (D := D) (ci := 2) (v := .long (σ.2 5 10)) (C := RX3) (T := TX3) (N := 13) hx hb hts in_X3_madeClasses_X3 hown hK hP 5 (wC_5 _ _ _ _ _) rfl 10 (by decide) (hts (.fieldLink RX3 73 "CallGraphs$Graph" "made" "J") (List.mem_of_getElem? (i := 1) rfl)) (fun _ h9 => h9) (fC_5_10 _ _) dX3_madeClasses_1 ?_
  exact rt_l (wd := wC ad cI cJ cZ) hx hb hr hlk ⟨Option.some.inj hf, rfl⟩ hP hS dX3_madeClasses_4
theorem hd_X3_madeClasses : yX3_madeClasses.cls = RX3 ∧ yX3_madeClasses.cls ≠ "java/lang/invoke/MethodHandle" ∧ yX3_madeClasses.cls ≠ "java/lang/invoke/VarHandle" ∧ (parseMethodDescriptor yX3_madeClasses.desc).map (fun d => d.parameters.length) = some 0 := by decide +kernel
set_option maxHeartbeats 4000000 in
set_option maxRecDepth 100000 in
theorem c_X3_madeClasses (l : Launch) (D : va_G) (ad : Nat → Nat) (cI cJ cZ : ClassId) (σ : SS) {res : Int64} (hf : p_X3_madeClasses_0 σ = some res) : Met l yX3_madeClasses wsX3_madeClasses ({ frames := 0, cells := 0, slots := 0, locals := 0 } : Room) (PW D (tyw cI cJ cZ) (wC ad cI cJ cZ σ) [.ref (ad 5)]) (va_Ql (fun (r : Int64) (u : SS) => r = res ∧ u = σ) (fun u t => va_P D vwCl (wC ad cI cJ cZ u) t.heap) (aC ad)) 0 0 (aC ad) := by
  refine Met.ofW (cc := cX3_madeClasses) (maxL := 1) (ret := (some .long)) (by decide) rfl ?_
  intro p e s m args below meth c s₁ B hml hv
  obtain ⟨rfl, hP, hK, hD0⟩ := hv
  have hD : ∀ σ, va_D (aC ad) (wC ad cI cJ cZ σ) := fun σ => wd_D hD0 (wC_map _ _ _ _ _) (wC_map _ _ _ _ _)
  have hm : mx p s m _ meth c cX3_madeClasses 1 (some .long) wsX3_madeClasses RX3 := ⟨B.exec, B.bytes, B.returns, hml, findClass_of_methodNamed B.named, atoms_spec (ws := wsX3_madeClasses) B.pre, B.notSynchronized⟩
  have hl := lv_entry ([.ref (ad 5)]) (n := 1) (Nat.le_of_ble_eq_true rfl)
  rw [lg_entry_eq]
  generalize (lg_sl ([.ref (ad 5)]) ++ List.replicate (1 - (lg_sl ([.ref (ad 5)])).length) Slot.unset).toArray = ls at hl ⊢
  exact w_X3_madeClasses_0 hm ⟨Nat.le_refl _, Nat.le_refl _⟩ hK hD σ hf _ _ _ hP va_S.rf hl
/-! CallGraphs$Graph.begunTypes()J -/
theorem in_X3_begunTypes_X3 : ∀ w ∈ u_ws RX3 TX3 13, w ∈ wsX3_begunTypes := fun w h => List.mem_cons_of_mem _ (List.mem_append_right _ h)
def p_X3_begunTypes_0 (σ : SS) : Option (Int64) := some (σ.2 5 11)
set_option maxHeartbeats 4000000 in
set_option maxRecDepth 100000 in
theorem w_X3_begunTypes_0 {p : Program} {l : Launch} {e : Env} {R : Room} {s : State} {m : MethodId} {args : Array Value} {below : List Frame} {meth : Method} {c : Code} {D : va_G} {ad : Nat → Nat} {cI cJ cZ : ClassId} {res : Int64} (hm : mx p s m args meth c cX3_begunTypes 1 (some .long) wsX3_begunTypes RX3) (hR : 0 ≤ R.frames ∧ 0 ≤ R.locals) (hK : va_K D vwCl (tyw cI cJ cZ) s) (hD : ∀ σ, va_D (aC ad) (wC ad cI cJ cZ σ)) (σ : SS) (hf : p_X3_begunTypes_0 σ = some res) (H : Heap) (locs : List Loc) (ls : Array Slot) (hP : va_P D vwCl (wC ad cI cJ cZ σ) H) (hS : va_S (aC ad) s.heap H locs) (hl : lv_has ls 1 [(0, .ref (ad 5))]) : W p l e R s m args below meth c H locs 0 0 (MQ below (va_Ql (fun (r : Int64) (u : SS) => r = res ∧ u = σ) (fun u t => va_P D vwCl (wC ad cI cJ cZ u) t.heap) (aC ad)) args s 0 0 (aC ad)) (F0 m 0 ls []) := by
  obtain ⟨hx, hb, hr, hml, hown, hts, hlk⟩ := id hm
  unfold p_X3_begunTypes_0 at hf
  refine lv_aload_n hx hb dX3_begunTypes_0 rfl (lv_at hl 0 rfl) ?_
  refine va_get (D := D) (ci := 2) (v := .long (σ.2 5 11)) (C := RX3) (T := TX3) (N := 13) hx hb hts in_X3_begunTypes_X3 hown hK hP 5 (wC_5 _ _ _ _ _) rfl 11 (by decide) (hts (.fieldLink RX3 76 "CallGraphs$Graph" "begun" "J") (List.mem_of_getElem? (i := 1) rfl)) (fun _ h9 => h9) (fC_5_11 _ _) dX3_begunTypes_1 ?_
  exact rt_l (wd := wC ad cI cJ cZ) hx hb hr hlk ⟨Option.some.inj hf, rfl⟩ hP hS dX3_begunTypes_4
theorem hd_X3_begunTypes : yX3_begunTypes.cls = RX3 ∧ yX3_begunTypes.cls ≠ "java/lang/invoke/MethodHandle" ∧ yX3_begunTypes.cls ≠ "java/lang/invoke/VarHandle" ∧ (parseMethodDescriptor yX3_begunTypes.desc).map (fun d => d.parameters.length) = some 0 := by decide +kernel
set_option maxHeartbeats 4000000 in
set_option maxRecDepth 100000 in
theorem c_X3_begunTypes (l : Launch) (D : va_G) (ad : Nat → Nat) (cI cJ cZ : ClassId) (σ : SS) {res : Int64} (hf : p_X3_begunTypes_0 σ = some res) : Met l yX3_begunTypes wsX3_begunTypes ({ frames := 0, cells := 0, slots := 0, locals := 0 } : Room) (PW D (tyw cI cJ cZ) (wC ad cI cJ cZ σ) [.ref (ad 5)]) (va_Ql (fun (r : Int64) (u : SS) => r = res ∧ u = σ) (fun u t => va_P D vwCl (wC ad cI cJ cZ u) t.heap) (aC ad)) 0 0 (aC ad) := by
  refine Met.ofW (cc := cX3_begunTypes) (maxL := 1) (ret := (some .long)) (by decide) rfl ?_
  intro p e s m args below meth c s₁ B hml hv
  obtain ⟨rfl, hP, hK, hD0⟩ := hv
  have hD : ∀ σ, va_D (aC ad) (wC ad cI cJ cZ σ) := fun σ => wd_D hD0 (wC_map _ _ _ _ _) (wC_map _ _ _ _ _)
  have hm : mx p s m _ meth c cX3_begunTypes 1 (some .long) wsX3_begunTypes RX3 := ⟨B.exec, B.bytes, B.returns, hml, findClass_of_methodNamed B.named, atoms_spec (ws := wsX3_begunTypes) B.pre, B.notSynchronized⟩
  have hl := lv_entry ([.ref (ad 5)]) (n := 1) (Nat.le_of_ble_eq_true rfl)
  rw [lg_entry_eq]
  generalize (lg_sl ([.ref (ad 5)]) ++ List.replicate (1 - (lg_sl ([.ref (ad 5)])).length) Slot.unset).toArray = ls at hl ⊢
  exact w_X3_begunTypes_0 hm ⟨Nat.le_refl _, Nat.le_refl _⟩ hK hD σ hf _ _ _ hP va_S.rf hl
/-! CallGraphs$Graph.calleesOf(I)J -/
theorem in_X3_calleesOf_X3 : ∀ w ∈ u_ws RX3 TX3 13, w ∈ wsX3_calleesOf := fun w h => List.mem_cons_of_mem _ (List.mem_append_right _ h)
def p_X3_calleesOf_0 (σ : SS) (v1 : Int32) : Option (Int64) := oi v1 160 (some (σ.2 25 v1.toNatClampNeg))
set_option maxHeartbeats 4000000 in
set_option maxRecDepth 100000 in
theorem w_X3_calleesOf_0 {p : Program} {l : Launch} {e : Env} {R : Room} {s : State} {m : MethodId} {args : Array Value} {below : List Frame} {meth : Method} {c : Code} {D : va_G} {ad : Nat → Nat} {cI cJ cZ : ClassId} {res : Int64} (hm : mx p s m args meth c cX3_calleesOf 2 (some .long) wsX3_calleesOf RX3) (hR : 0 ≤ R.frames ∧ 0 ≤ R.locals) (hK : va_K D vwCl (tyw cI cJ cZ) s) (hD : ∀ σ, va_D (aC ad) (wC ad cI cJ cZ σ)) (σ : SS) (v1 : Int32) (hf : p_X3_calleesOf_0 σ v1 = some res) (H : Heap) (locs : List Loc) (ls : Array Slot) (hP : va_P D vwCl (wC ad cI cJ cZ σ) H) (hS : va_S (aC ad) s.heap H locs) (hl : lv_has ls 2 [(0, .ref (ad 5)), (1, .int v1)]) : W p l e R s m args below meth c H locs 0 0 (MQ below (va_Ql (fun (r : Int64) (u : SS) => r = res ∧ u = σ) (fun u t => va_P D vwCl (wC ad cI cJ cZ u) t.heap) (aC ad)) args s 0 0 (aC ad)) (F0 m 0 ls []) := by
  obtain ⟨hx, hb, hr, hml, hown, hts, hlk⟩ := id hm
  unfold p_X3_calleesOf_0 at hf
  refine lv_aload_n hx hb dX3_calleesOf_0 rfl (lv_at hl 0 rfl) ?_
  refine va_get (D := D) (ci := 2) (v := .ref (ad 25)) (C := RX3) (T := TX3) (N := 13) hx hb hts in_X3_calleesOf_X3 hown hK hP 5 (wC_5 _ _ _ _ _) rfl 5 (by decide) (hts (.fieldLink RX3 15 "CallGraphs$Graph" "callees" "[J") (List.mem_of_getElem? (i := 1) rfl)) (fun _ h9 => h9) (fC_5_5 _ _) dX3_calleesOf_1 ?_
  refine lv_iload_n hx hb dX3_calleesOf_4 rfl (lv_at hl 1 rfl) ?_
  obtain ⟨h_5, hf⟩ := oi_e hf
  refine va_lald hx hb hK hP 25 1 (wC_25 _ _ _ _ _) rfl h_5 dX3_calleesOf_5 ?_
  exact rt_l (wd := wC ad cI cJ cZ) hx hb hr hlk ⟨Option.some.inj hf, rfl⟩ hP hS dX3_calleesOf_6
theorem hd_X3_calleesOf : yX3_calleesOf.cls = RX3 ∧ yX3_calleesOf.cls ≠ "java/lang/invoke/MethodHandle" ∧ yX3_calleesOf.cls ≠ "java/lang/invoke/VarHandle" ∧ (parseMethodDescriptor yX3_calleesOf.desc).map (fun d => d.parameters.length) = some 1 := by decide +kernel
set_option maxHeartbeats 4000000 in
set_option maxRecDepth 100000 in
theorem c_X3_calleesOf (l : Launch) (D : va_G) (ad : Nat → Nat) (cI cJ cZ : ClassId) (σ : SS) (v1 : Int32) {res : Int64} (hf : p_X3_calleesOf_0 σ v1 = some res) : Met l yX3_calleesOf wsX3_calleesOf ({ frames := 0, cells := 0, slots := 0, locals := 0 } : Room) (PW D (tyw cI cJ cZ) (wC ad cI cJ cZ σ) [.ref (ad 5), .int v1]) (va_Ql (fun (r : Int64) (u : SS) => r = res ∧ u = σ) (fun u t => va_P D vwCl (wC ad cI cJ cZ u) t.heap) (aC ad)) 0 0 (aC ad) := by
  refine Met.ofW (cc := cX3_calleesOf) (maxL := 2) (ret := (some .long)) (by decide) rfl ?_
  intro p e s m args below meth c s₁ B hml hv
  obtain ⟨rfl, hP, hK, hD0⟩ := hv
  have hD : ∀ σ, va_D (aC ad) (wC ad cI cJ cZ σ) := fun σ => wd_D hD0 (wC_map _ _ _ _ _) (wC_map _ _ _ _ _)
  have hm : mx p s m _ meth c cX3_calleesOf 2 (some .long) wsX3_calleesOf RX3 := ⟨B.exec, B.bytes, B.returns, hml, findClass_of_methodNamed B.named, atoms_spec (ws := wsX3_calleesOf) B.pre, B.notSynchronized⟩
  have hl := lv_entry ([.ref (ad 5), .int v1]) (n := 2) (Nat.le_of_ble_eq_true rfl)
  rw [lg_entry_eq]
  generalize (lg_sl ([.ref (ad 5), .int v1]) ++ List.replicate (2 - (lg_sl ([.ref (ad 5), .int v1])).length) Slot.unset).toArray = ls at hl ⊢
  exact w_X3_calleesOf_0 hm ⟨Nat.le_refl _, Nat.le_refl _⟩ hK hD σ v1 hf _ _ _ hP va_S.rf hl
/-! CallGraphs$Graph.callersOfAny(J)J -/
theorem in_X3_callersOfAny_X3 : ∀ w ∈ u_ws RX3 TX3 13, w ∈ wsX3_callersOfAny := fun w h => List.mem_cons_of_mem _ (List.mem_append_left _ (List.mem_append_right _ h))
def p_X3_callersOfAny_38 (σ : SS) (k5 : Int64 → Int64 → Int32 → Option (Int64)) (v1 : Int64) (v3 : Int64) (v5 : Int32) : Option (Int64) := k5 v1 v3 (v5 + 1)
set_option maxHeartbeats 4000000 in
set_option maxRecDepth 100000 in
theorem w_X3_callersOfAny_38 {p : Program} {l : Launch} {e : Env} {R : Room} {s : State} {m : MethodId} {args : Array Value} {below : List Frame} {meth : Method} {c : Code} {D : va_G} {ad : Nat → Nat} {cI cJ cZ : ClassId} {res : Int64} (hm : mx p s m args meth c cX3_callersOfAny 6 (some .long) wsX3_callersOfAny RX3) (hR : 1 ≤ R.frames ∧ 22 ≤ R.locals) (hK : va_K D vwCl (tyw cI cJ cZ) s) (hD : ∀ σ, va_D (aC ad) (wC ad cI cJ cZ σ)) (σ : SS) (k5 : Int64 → Int64 → Int32 → Option (Int64)) (hk5 : ∀ (v1 : Int64) (v3 : Int64) (v5 : Int32), k5 v1 v3 v5 = some res → ∀ (H : Heap) (locs : List Loc) (ls : Array Slot), va_P D vwCl (wC ad cI cJ cZ σ) H → va_S (aC ad) s.heap H locs → lv_has ls 6 [(0, .ref (ad 5)), (1, .long v1), (3, .long v3), (5, .int v5)] → W p l e R s m args below meth c H locs 0 0 (MQ below (va_Ql (fun (r : Int64) (u : SS) => r = res ∧ u = σ) (fun u t => va_P D vwCl (wC ad cI cJ cZ u) t.heap) (aC ad)) args s 0 0 (aC ad)) (F0 m 5 ls [])) (v1 : Int64) (v3 : Int64) (v5 : Int32) (hf : p_X3_callersOfAny_38 σ k5 v1 v3 v5 = some res) (H : Heap) (locs : List Loc) (ls : Array Slot) (hP : va_P D vwCl (wC ad cI cJ cZ σ) H) (hS : va_S (aC ad) s.heap H locs) (hl : lv_has ls 6 [(0, .ref (ad 5)), (1, .long v1), (3, .long v3), (5, .int v5)]) : W p l e R s m args below meth c H locs 0 0 (MQ below (va_Ql (fun (r : Int64) (u : SS) => r = res ∧ u = σ) (fun u t => va_P D vwCl (wC ad cI cJ cZ u) t.heap) (aC ad)) args s 0 0 (aC ad)) (F0 m 38 ls []) := by
  obtain ⟨hx, hb, hr, hml, hown, hts, hlk⟩ := id hm
  unfold p_X3_callersOfAny_38 at hf
  refine lv_iinc (v := (v5 + 1)) (lv' := [(5, .int (v5 + 1)), (0, .ref (ad 5)), (1, .long v1), (3, .long v3)]) hx hb dX3_callersOfAny_38 hl (k := 3) rfl rfl (by decide) rfl (fun ls hl => ?_)
  refine lv_goto (tgt := 5) hx hb dX3_callersOfAny_41 (by decide) ?_
  exact hk5 v1 v3 (v5 + 1) hf _ _ _ hP hS (lv_sub hl [1, 2, 3, 0] rfl)
def p_X3_callersOfAny_5 (σ : SS) : Nat → Int64 → Int64 → Int32 → Option (Int64)
  | 0, _, _, _ => none
  | n + 1, v1, v3, v5 => let k5 := p_X3_callersOfAny_5 σ n; oc (p_X4_size_0 σ) (fun r_11 => if r_11 ≤ v5 then some v3 else oi v5 48 (if (lg_cmp ((σ.2 26 v5.toNatClampNeg) &&& v1) 0) = 0 then p_X3_callersOfAny_38 σ k5 v1 v3 v5 else oc (p_X0_with_0 v3 v5) (fun r_34 => p_X3_callersOfAny_38 σ k5 v1 r_34 v5)))
set_option maxHeartbeats 4000000 in
set_option maxRecDepth 100000 in
theorem w_X3_callersOfAny_5 {p : Program} {l : Launch} {e : Env} {R : Room} {s : State} {m : MethodId} {args : Array Value} {below : List Frame} {meth : Method} {c : Code} {D : va_G} {ad : Nat → Nat} {cI cJ cZ : ClassId} {res : Int64} (hm : mx p s m args meth c cX3_callersOfAny 6 (some .long) wsX3_callersOfAny RX3) (hR : 1 ≤ R.frames ∧ 22 ≤ R.locals) (hK : va_K D vwCl (tyw cI cJ cZ) s) (hD : ∀ σ, va_D (aC ad) (wC ad cI cJ cZ σ)) (σ : SS) : ∀ (n : Nat) (v1 : Int64) (v3 : Int64) (v5 : Int32), p_X3_callersOfAny_5 σ n v1 v3 v5 = some res → ∀ (H : Heap) (locs : List Loc) (ls : Array Slot), va_P D vwCl (wC ad cI cJ cZ σ) H → va_S (aC ad) s.heap H locs → lv_has ls 6 [(0, .ref (ad 5)), (1, .long v1), (3, .long v3), (5, .int v5)] → W p l e R s m args below meth c H locs 0 0 (MQ below (va_Ql (fun (r : Int64) (u : SS) => r = res ∧ u = σ) (fun u t => va_P D vwCl (wC ad cI cJ cZ u) t.heap) (aC ad)) args s 0 0 (aC ad)) (F0 m 5 ls []) := by
  obtain ⟨hx, hb, hr, hml, hown, hts, hlk⟩ := id hm
  intro n
  induction n with
  | zero =>
    intro _ _ _ hf
    cases hf
  | succ n hk5 =>
    intro v1 v3 v5 hf H locs ls hP hS hl
    rw [p_X3_callersOfAny_5] at hf
    try dsimp only at hf
    refine lv_iload hx hb dX3_callersOfAny_5 (lv_at hl 3 rfl) ?_
    refine lv_aload_n hx hb dX3_callersOfAny_7 rfl (lv_at hl 0 rfl) ?_
    refine va_get (D := D) (ci := 2) (v := .ref (ad 2)) (C := RX3) (T := TX3) (N := 13) hx hb hts in_X3_callersOfAny_X3 hown hK hP 5 (wC_5 _ _ _ _ _) rfl 1 (by decide) (hts (.fieldLink RX3 31 "CallGraphs$Graph" "members" "LCallGraphs$Members;") (List.mem_of_getElem? (i := 1) rfl)) (fun _ h9 => h9) (fC_5_1 _ _) dX3_callersOfAny_8 ?_
    obtain ⟨r_11, hg_11, hf⟩ := oc_e hf
    refine mV_ri (wd := wC ad cI cJ cZ) (σ := σ) (As := []) (rest := [.int v5]) ⟨hx, hb, hml, hown, hts⟩ hK hP hD hS (c_X4_size l D ad cI cJ cZ σ hg_11) (cwV 0 hts gX3_callersOfAny_X4_size rfl rfl rfl hd_X4_size ⟨Nat.le_trans (Nat.le_of_ble_eq_true rfl) hR.1, Nat.le_trans (Nat.le_of_ble_eq_true rfl) hR.2⟩) rfl (wC_2 _ _ _ _ _) rfl hl.1 rfl (Nat.le_of_ble_eq_true rfl) dX3_callersOfAny_11 (fun H locs hP hS => ?_)
    refine lv_icmp_ge (tgt := 44) hx hb dX3_callersOfAny_14 (by decide) (fun c_14 => ?_) (fun c_14 => ?_)
    · rw [if_pos c_14] at hf
      refine lv_lload_n hx hb dX3_callersOfAny_44 rfl (lv_at hl 2 rfl) ?_
      exact rt_l (wd := wC ad cI cJ cZ) hx hb hr hlk ⟨Option.some.inj hf, rfl⟩ hP hS dX3_callersOfAny_45
    · rw [if_neg c_14] at hf
      refine lv_aload_n hx hb dX3_callersOfAny_17 rfl (lv_at hl 0 rfl) ?_
      refine va_get (D := D) (ci := 2) (v := .ref (ad 26)) (C := RX3) (T := TX3) (N := 13) hx hb hts in_X3_callersOfAny_X3 hown hK hP 5 (wC_5 _ _ _ _ _) rfl 6 (by decide) (hts (.fieldLink RX3 18 "CallGraphs$Graph" "calls" "[J") (List.mem_of_getElem? (i := 2) rfl)) (fun _ h9 => h9) (fC_5_6 _ _) dX3_callersOfAny_18 ?_
      refine lv_iload hx hb dX3_callersOfAny_21 (lv_at hl 3 rfl) ?_
      obtain ⟨h_23, hf⟩ := oi_e hf
      refine va_lald hx hb hK hP 26 1 (wC_26 _ _ _ _ _) rfl h_23 dX3_callersOfAny_23 ?_
      refine lv_lload_n hx hb dX3_callersOfAny_24 rfl (lv_at hl 1 rfl) ?_
      refine lv_land hx hb dX3_callersOfAny_25 ?_
      refine lv_lconst (v := 0) hx hb dX3_callersOfAny_26 (by decide) ?_
      refine W.lcmp hx hb dX3_callersOfAny_27 ?_
      refine lv_if_eq (tgt := 38) hx hb dX3_callersOfAny_28 (by decide) (fun c_28 => ?_) (fun c_28 => ?_)
      · rw [if_pos c_28] at hf
        exact w_X3_callersOfAny_38 hm hR hK hD σ (p_X3_callersOfAny_5 σ n) hk5 v1 v3 v5 hf _ _ _ hP hS (lv_sub hl [0, 1, 2, 3] rfl)
      · rw [if_neg c_28] at hf
        refine lv_lload_n hx hb dX3_callersOfAny_31 rfl (lv_at hl 2 rfl) ?_
        refine lv_iload hx hb dX3_callersOfAny_32 (lv_at hl 3 rfl) ?_
        obtain ⟨r_34, hg_34, hf⟩ := oc_e hf
        refine mS_l (D := D) (As := [.long v3, .int v5]) (rest := []) ⟨hx, hb, hml, hown, hts⟩ hP hS (c_X0_with l v3 v5 hg_34) (va_cwS 2 hts gX3_callersOfAny_X0_with rfl rfl rfl hd_X0_with ⟨Nat.le_trans (Nat.le_of_ble_eq_true rfl) hR.1, Nat.le_trans (Nat.le_of_ble_eq_true rfl) hR.2⟩) rfl hl.1 rfl (Nat.le_of_ble_eq_true rfl) dX3_callersOfAny_34 (fun H locs hP hS => ?_)
        refine lv_lstore_n (lv' := [(3, .long r_34), (0, .ref (ad 5)), (1, .long v1), (5, .int v5)]) hx hb dX3_callersOfAny_37 rfl hl (by decide) rfl (fun ls hl => ?_)
        exact w_X3_callersOfAny_38 hm hR hK hD σ (p_X3_callersOfAny_5 σ n) hk5 v1 r_34 v5 hf _ _ _ hP hS (lv_sub hl [1, 2, 0, 3] rfl)
def p_X3_callersOfAny_0 (σ : SS) (v1 : Int64) : Option (Int64) := p_X3_callersOfAny_5 σ 100000 v1 0 0
set_option maxHeartbeats 4000000 in
set_option maxRecDepth 100000 in
theorem w_X3_callersOfAny_0 {p : Program} {l : Launch} {e : Env} {R : Room} {s : State} {m : MethodId} {args : Array Value} {below : List Frame} {meth : Method} {c : Code} {D : va_G} {ad : Nat → Nat} {cI cJ cZ : ClassId} {res : Int64} (hm : mx p s m args meth c cX3_callersOfAny 6 (some .long) wsX3_callersOfAny RX3) (hR : 1 ≤ R.frames ∧ 22 ≤ R.locals) (hK : va_K D vwCl (tyw cI cJ cZ) s) (hD : ∀ σ, va_D (aC ad) (wC ad cI cJ cZ σ)) (σ : SS) (v1 : Int64) (hf : p_X3_callersOfAny_0 σ v1 = some res) (H : Heap) (locs : List Loc) (ls : Array Slot) (hP : va_P D vwCl (wC ad cI cJ cZ σ) H) (hS : va_S (aC ad) s.heap H locs) (hl : lv_has ls 6 [(0, .ref (ad 5)), (1, .long v1)]) : W p l e R s m args below meth c H locs 0 0 (MQ below (va_Ql (fun (r : Int64) (u : SS) => r = res ∧ u = σ) (fun u t => va_P D vwCl (wC ad cI cJ cZ u) t.heap) (aC ad)) args s 0 0 (aC ad)) (F0 m 0 ls []) := by
  obtain ⟨hx, hb, hr, hml, hown, hts, hlk⟩ := id hm
  unfold p_X3_callersOfAny_0 at hf
  refine lv_lconst (v := 0) hx hb dX3_callersOfAny_0 (by decide) ?_
  refine lv_lstore_n (lv' := [(3, .long 0), (0, .ref (ad 5)), (1, .long v1)]) hx hb dX3_callersOfAny_1 rfl hl (by decide) rfl (fun ls hl => ?_)
  refine lv_iconst (v := 0) hx hb dX3_callersOfAny_2 (by decide) ?_
  refine lv_istore (lv' := [(5, .int 0), (3, .long 0), (0, .ref (ad 5)), (1, .long v1)]) hx hb dX3_callersOfAny_3 hl (by decide) rfl (fun ls hl => ?_)
  exact w_X3_callersOfAny_5 hm hR hK hD σ 100000 v1 0 0 hf _ _ _ hP hS (lv_sub hl [2, 3, 1, 0] rfl)
theorem hd_X3_callersOfAny : yX3_callersOfAny.cls = RX3 ∧ yX3_callersOfAny.cls ≠ "java/lang/invoke/MethodHandle" ∧ yX3_callersOfAny.cls ≠ "java/lang/invoke/VarHandle" ∧ (parseMethodDescriptor yX3_callersOfAny.desc).map (fun d => d.parameters.length) = some 1 := by decide +kernel
set_option maxHeartbeats 4000000 in
set_option maxRecDepth 100000 in
theorem c_X3_callersOfAny (l : Launch) (D : va_G) (ad : Nat → Nat) (cI cJ cZ : ClassId) (σ : SS) (v1 : Int64) {res : Int64} (hf : p_X3_callersOfAny_0 σ v1 = some res) : Met l yX3_callersOfAny wsX3_callersOfAny ({ frames := 1, cells := 0, slots := 0, locals := 22 } : Room) (PW D (tyw cI cJ cZ) (wC ad cI cJ cZ σ) [.ref (ad 5), .long v1]) (va_Ql (fun (r : Int64) (u : SS) => r = res ∧ u = σ) (fun u t => va_P D vwCl (wC ad cI cJ cZ u) t.heap) (aC ad)) 0 0 (aC ad) := by
  refine Met.ofW (cc := cX3_callersOfAny) (maxL := 6) (ret := (some .long)) (by decide) rfl ?_
  intro p e s m args below meth c s₁ B hml hv
  obtain ⟨rfl, hP, hK, hD0⟩ := hv
  have hD : ∀ σ, va_D (aC ad) (wC ad cI cJ cZ σ) := fun σ => wd_D hD0 (wC_map _ _ _ _ _) (wC_map _ _ _ _ _)
  have hm : mx p s m _ meth c cX3_callersOfAny 6 (some .long) wsX3_callersOfAny RX3 := ⟨B.exec, B.bytes, B.returns, hml, findClass_of_methodNamed B.named, atoms_spec (ws := wsX3_callersOfAny) B.pre, B.notSynchronized⟩
  have hl := lv_entry ([.ref (ad 5), .long v1]) (n := 6) (Nat.le_of_ble_eq_true rfl)
  rw [lg_entry_eq]
  generalize (lg_sl ([.ref (ad 5), .long v1]) ++ List.replicate (6 - (lg_sl ([.ref (ad 5), .long v1])).length) Slot.unset).toArray = ls at hl ⊢
  exact w_X3_callersOfAny_0 hm ⟨Nat.le_refl _, Nat.le_refl _⟩ hK hD σ v1 hf _ _ _ hP va_S.rf hl
/-! CallGraphs$Graph.callersOf(I)J -/

def p_X3_callersOf_0 (σ : SS) (v1 : Int32) : Option (Int64) := oc (p_X3_callersOfAny_0 σ (jshl 1 v1)) (fun r_4 => some r_4)
set_option maxHeartbeats 4000000 in
set_option maxRecDepth 100000 in
theorem w_X3_callersOf_0 {p : Program} {l : Launch} {e : Env} {R : Room} {s : State} {m : MethodId} {args : Array Value} {below : List Frame} {meth : Method} {c : Code} {D : va_G} {ad : Nat → Nat} {cI cJ cZ : ClassId} {res : Int64} (hm : mx p s m args meth c cX3_callersOf 2 (some .long) wsX3_callersOf RX3) (hR : 2 ≤ R.frames ∧ 47 ≤ R.locals) (hK : va_K D vwCl (tyw cI cJ cZ) s) (hD : ∀ σ, va_D (aC ad) (wC ad cI cJ cZ σ)) (σ : SS) (v1 : Int32) (hf : p_X3_callersOf_0 σ v1 = some res) (H : Heap) (locs : List Loc) (ls : Array Slot) (hP : va_P D vwCl (wC ad cI cJ cZ σ) H) (hS : va_S (aC ad) s.heap H locs) (hl : lv_has ls 2 [(0, .ref (ad 5)), (1, .int v1)]) : W p l e R s m args below meth c H locs 0 0 (MQ below (va_Ql (fun (r : Int64) (u : SS) => r = res ∧ u = σ) (fun u t => va_P D vwCl (wC ad cI cJ cZ u) t.heap) (aC ad)) args s 0 0 (aC ad)) (F0 m 0 ls []) := by
  obtain ⟨hx, hb, hr, hml, hown, hts, hlk⟩ := id hm
  unfold p_X3_callersOf_0 at hf
  refine lv_aload_n hx hb dX3_callersOf_0 rfl (lv_at hl 0 rfl) ?_
  refine lv_lconst (v := 1) hx hb dX3_callersOf_1 (by decide) ?_
  refine lv_iload_n hx hb dX3_callersOf_2 rfl (lv_at hl 1 rfl) ?_
  refine lv_lshl (v := (jshl 1 v1)) hx hb dX3_callersOf_3 rfl ?_
  obtain ⟨r_4, hg_4, hf⟩ := oc_e hf
  refine mV_rl (wd := wC ad cI cJ cZ) (σ := σ) (As := [.long (jshl 1 v1)]) (rest := []) ⟨hx, hb, hml, hown, hts⟩ hK hP hD hS (c_X3_callersOfAny l D ad cI cJ cZ σ (jshl 1 v1) hg_4) (cwV 1 hts gX3_callersOf_X3_callersOfAny rfl rfl rfl hd_X3_callersOfAny ⟨Nat.le_trans (Nat.le_of_ble_eq_true rfl) hR.1, Nat.le_trans (Nat.le_of_ble_eq_true rfl) hR.2⟩) rfl (wC_5 _ _ _ _ _) rfl hl.1 rfl (Nat.le_of_ble_eq_true rfl) dX3_callersOf_4 (fun H locs hP hS => ?_)
  exact rt_l (wd := wC ad cI cJ cZ) hx hb hr hlk ⟨Option.some.inj hf, rfl⟩ hP hS dX3_callersOf_7
theorem hd_X3_callersOf : yX3_callersOf.cls = RX3 ∧ yX3_callersOf.cls ≠ "java/lang/invoke/MethodHandle" ∧ yX3_callersOf.cls ≠ "java/lang/invoke/VarHandle" ∧ (parseMethodDescriptor yX3_callersOf.desc).map (fun d => d.parameters.length) = some 1 := by decide +kernel
set_option maxHeartbeats 4000000 in
set_option maxRecDepth 100000 in
theorem c_X3_callersOf (l : Launch) (D : va_G) (ad : Nat → Nat) (cI cJ cZ : ClassId) (σ : SS) (v1 : Int32) {res : Int64} (hf : p_X3_callersOf_0 σ v1 = some res) : Met l yX3_callersOf wsX3_callersOf ({ frames := 2, cells := 0, slots := 0, locals := 47 } : Room) (PW D (tyw cI cJ cZ) (wC ad cI cJ cZ σ) [.ref (ad 5), .int v1]) (va_Ql (fun (r : Int64) (u : SS) => r = res ∧ u = σ) (fun u t => va_P D vwCl (wC ad cI cJ cZ u) t.heap) (aC ad)) 0 0 (aC ad) := by
  refine Met.ofW (cc := cX3_callersOf) (maxL := 2) (ret := (some .long)) (by decide) rfl ?_
  intro p e s m args below meth c s₁ B hml hv
  obtain ⟨rfl, hP, hK, hD0⟩ := hv
  have hD : ∀ σ, va_D (aC ad) (wC ad cI cJ cZ σ) := fun σ => wd_D hD0 (wC_map _ _ _ _ _) (wC_map _ _ _ _ _)
  have hm : mx p s m _ meth c cX3_callersOf 2 (some .long) wsX3_callersOf RX3 := ⟨B.exec, B.bytes, B.returns, hml, findClass_of_methodNamed B.named, atoms_spec (ws := wsX3_callersOf) B.pre, B.notSynchronized⟩
  have hl := lv_entry ([.ref (ad 5), .int v1]) (n := 2) (Nat.le_of_ble_eq_true rfl)
  rw [lg_entry_eq]
  generalize (lg_sl ([.ref (ad 5), .int v1]) ++ List.replicate (2 - (lg_sl ([.ref (ad 5), .int v1])).length) Slot.unset).toArray = ls at hl ⊢
  exact w_X3_callersOf_0 hm ⟨Nat.le_refl _, Nat.le_refl _⟩ hK hD σ v1 hf _ _ _ hP va_S.rf hl
/-! CallGraphs$Graph.isRecursive(I)Z -/
theorem in_X3_isRecursive_X3 : ∀ w ∈ u_ws RX3 TX3 13, w ∈ wsX3_isRecursive := fun w h => List.mem_cons_of_mem _ (List.mem_append_right _ h)
def p_X3_isRecursive_0 (σ : SS) (v1 : Int32) : Option (Int32) := oi v1 48 (oc (p_X0_has_0 (σ.2 27 v1.toNatClampNeg) v1) (fun r_7 => ob r_7 (some r_7)))
set_option maxHeartbeats 4000000 in
set_option maxRecDepth 100000 in
theorem w_X3_isRecursive_0 {p : Program} {l : Launch} {e : Env} {R : Room} {s : State} {m : MethodId} {args : Array Value} {below : List Frame} {meth : Method} {c : Code} {D : va_G} {ad : Nat → Nat} {cI cJ cZ : ClassId} {res : Int32} (hm : mx p s m args meth c cX3_isRecursive 2 (some .boolean) wsX3_isRecursive RX3) (hR : 1 ≤ R.frames ∧ 22 ≤ R.locals) (hK : va_K D vwCl (tyw cI cJ cZ) s) (hD : ∀ σ, va_D (aC ad) (wC ad cI cJ cZ σ)) (σ : SS) (v1 : Int32) (hf : p_X3_isRecursive_0 σ v1 = some res) (H : Heap) (locs : List Loc) (ls : Array Slot) (hP : va_P D vwCl (wC ad cI cJ cZ σ) H) (hS : va_S (aC ad) s.heap H locs) (hl : lv_has ls 2 [(0, .ref (ad 5)), (1, .int v1)]) : W p l e R s m args below meth c H locs 0 0 (MQ below (va_Qi (fun (r : Int32) (u : SS) => r = res ∧ u = σ) (fun u t => va_P D vwCl (wC ad cI cJ cZ u) t.heap) (aC ad)) args s 0 0 (aC ad)) (F0 m 0 ls []) := by
  obtain ⟨hx, hb, hr, hml, hown, hts, hlk⟩ := id hm
  unfold p_X3_isRecursive_0 at hf
  refine lv_aload_n hx hb dX3_isRecursive_0 rfl (lv_at hl 0 rfl) ?_
  refine va_get (D := D) (ci := 2) (v := .ref (ad 27)) (C := RX3) (T := TX3) (N := 13) hx hb hts in_X3_isRecursive_X3 hown hK hP 5 (wC_5 _ _ _ _ _) rfl 7 (by decide) (hts (.fieldLink RX3 21 "CallGraphs$Graph" "comes" "[J") (List.mem_of_getElem? (i := 1) rfl)) (fun _ h9 => h9) (fC_5_7 _ _) dX3_isRecursive_1 ?_
  refine lv_iload_n hx hb dX3_isRecursive_4 rfl (lv_at hl 1 rfl) ?_
  obtain ⟨h_5, hf⟩ := oi_e hf
  refine va_lald hx hb hK hP 27 1 (wC_27 _ _ _ _ _) rfl h_5 dX3_isRecursive_5 ?_
  refine lv_iload_n hx hb dX3_isRecursive_6 rfl (lv_at hl 1 rfl) ?_
  obtain ⟨r_7, hg_7, hf⟩ := oc_e hf
  refine mS_i (D := D) (As := [.long (σ.2 27 v1.toNatClampNeg), .int v1]) (rest := []) ⟨hx, hb, hml, hown, hts⟩ hP hS (c_X0_has l (σ.2 27 v1.toNatClampNeg) v1 hg_7) (va_cwS 2 hts gX3_isRecursive_X0_has rfl rfl rfl hd_X0_has ⟨Nat.le_trans (Nat.le_of_ble_eq_true rfl) hR.1, Nat.le_trans (Nat.le_of_ble_eq_true rfl) hR.2⟩) rfl hl.1 rfl (Nat.le_of_ble_eq_true rfl) dX3_isRecursive_7 (fun H locs hP hS => ?_)
  obtain ⟨h_10, hf⟩ := ob_e hf
  exact rt_z (wd := wC ad cI cJ cZ) hx hb hr hlk h_10 ⟨Option.some.inj hf, rfl⟩ hP hS dX3_isRecursive_10
theorem hd_X3_isRecursive : yX3_isRecursive.cls = RX3 ∧ yX3_isRecursive.cls ≠ "java/lang/invoke/MethodHandle" ∧ yX3_isRecursive.cls ≠ "java/lang/invoke/VarHandle" ∧ (parseMethodDescriptor yX3_isRecursive.desc).map (fun d => d.parameters.length) = some 1 := by decide +kernel
set_option maxHeartbeats 4000000 in
set_option maxRecDepth 100000 in
theorem c_X3_isRecursive (l : Launch) (D : va_G) (ad : Nat → Nat) (cI cJ cZ : ClassId) (σ : SS) (v1 : Int32) {res : Int32} (hf : p_X3_isRecursive_0 σ v1 = some res) : Met l yX3_isRecursive wsX3_isRecursive ({ frames := 1, cells := 0, slots := 0, locals := 22 } : Room) (PW D (tyw cI cJ cZ) (wC ad cI cJ cZ σ) [.ref (ad 5), .int v1]) (va_Qi (fun (r : Int32) (u : SS) => r = res ∧ u = σ) (fun u t => va_P D vwCl (wC ad cI cJ cZ u) t.heap) (aC ad)) 0 0 (aC ad) := by
  refine Met.ofW (cc := cX3_isRecursive) (maxL := 2) (ret := (some .boolean)) (by decide) rfl ?_
  intro p e s m args below meth c s₁ B hml hv
  obtain ⟨rfl, hP, hK, hD0⟩ := hv
  have hD : ∀ σ, va_D (aC ad) (wC ad cI cJ cZ σ) := fun σ => wd_D hD0 (wC_map _ _ _ _ _) (wC_map _ _ _ _ _)
  have hm : mx p s m _ meth c cX3_isRecursive 2 (some .boolean) wsX3_isRecursive RX3 := ⟨B.exec, B.bytes, B.returns, hml, findClass_of_methodNamed B.named, atoms_spec (ws := wsX3_isRecursive) B.pre, B.notSynchronized⟩
  have hl := lv_entry ([.ref (ad 5), .int v1]) (n := 2) (Nat.le_of_ble_eq_true rfl)
  rw [lg_entry_eq]
  generalize (lg_sl ([.ref (ad 5), .int v1]) ++ List.replicate (2 - (lg_sl ([.ref (ad 5), .int v1])).length) Slot.unset).toArray = ls at hl ⊢
  exact w_X3_isRecursive_0 hm ⟨Nat.le_refl _, Nat.le_refl _⟩ hK hD σ v1 hf _ _ _ hP va_S.rf hl
/-! CallGraphs$Graph.ringOf(I)J -/
theorem in_X3_ringOf_X3 : ∀ w ∈ u_ws RX3 TX3 13, w ∈ wsX3_ringOf := fun w h => List.mem_cons_of_mem _ (List.mem_append_left _ (List.mem_append_right _ h))
def p_X3_ringOf_52 (σ : SS) (k5 : Int32 → Int64 → Int32 → Option (Int64)) (v1 : Int32) (v2 : Int64) (v4 : Int32) : Option (Int64) := k5 v1 v2 (v4 + 1)
set_option maxHeartbeats 4000000 in
set_option maxRecDepth 100000 in
theorem w_X3_ringOf_52 {p : Program} {l : Launch} {e : Env} {R : Room} {s : State} {m : MethodId} {args : Array Value} {below : List Frame} {meth : Method} {c : Code} {D : va_G} {ad : Nat → Nat} {cI cJ cZ : ClassId} {res : Int64} (hm : mx p s m args meth c cX3_ringOf 5 (some .long) wsX3_ringOf RX3) (hR : 1 ≤ R.frames ∧ 22 ≤ R.locals) (hK : va_K D vwCl (tyw cI cJ cZ) s) (hD : ∀ σ, va_D (aC ad) (wC ad cI cJ cZ σ)) (σ : SS) (k5 : Int32 → Int64 → Int32 → Option (Int64)) (hk5 : ∀ (v1 : Int32) (v2 : Int64) (v4 : Int32), k5 v1 v2 v4 = some res → ∀ (H : Heap) (locs : List Loc) (ls : Array Slot), va_P D vwCl (wC ad cI cJ cZ σ) H → va_S (aC ad) s.heap H locs → lv_has ls 5 [(0, .ref (ad 5)), (1, .int v1), (2, .long v2), (4, .int v4)] → W p l e R s m args below meth c H locs 0 0 (MQ below (va_Ql (fun (r : Int64) (u : SS) => r = res ∧ u = σ) (fun u t => va_P D vwCl (wC ad cI cJ cZ u) t.heap) (aC ad)) args s 0 0 (aC ad)) (F0 m 5 ls [])) (v1 : Int32) (v2 : Int64) (v4 : Int32) (hf : p_X3_ringOf_52 σ k5 v1 v2 v4 = some res) (H : Heap) (locs : List Loc) (ls : Array Slot) (hP : va_P D vwCl (wC ad cI cJ cZ σ) H) (hS : va_S (aC ad) s.heap H locs) (hl : lv_has ls 5 [(0, .ref (ad 5)), (1, .int v1), (2, .long v2), (4, .int v4)]) : W p l e R s m args below meth c H locs 0 0 (MQ below (va_Ql (fun (r : Int64) (u : SS) => r = res ∧ u = σ) (fun u t => va_P D vwCl (wC ad cI cJ cZ u) t.heap) (aC ad)) args s 0 0 (aC ad)) (F0 m 52 ls []) := by
  obtain ⟨hx, hb, hr, hml, hown, hts, hlk⟩ := id hm
  unfold p_X3_ringOf_52 at hf
  refine lv_iinc (v := (v4 + 1)) (lv' := [(4, .int (v4 + 1)), (0, .ref (ad 5)), (1, .int v1), (2, .long v2)]) hx hb dX3_ringOf_52 hl (k := 3) rfl rfl (by decide) rfl (fun ls hl => ?_)
  refine lv_goto (tgt := 5) hx hb dX3_ringOf_55 (by decide) ?_
  exact hk5 v1 v2 (v4 + 1) hf _ _ _ hP hS (lv_sub hl [1, 2, 3, 0] rfl)
def p_X3_ringOf_5 (σ : SS) : Nat → Int32 → Int64 → Int32 → Option (Int64)
  | 0, _, _, _ => none
  | n + 1, v1, v2, v4 => let k5 := p_X3_ringOf_5 σ n; oc (p_X4_size_0 σ) (fun r_11 => if r_11 ≤ v4 then some v2 else oi v1 48 (oc (p_X0_has_0 (σ.2 27 v1.toNatClampNeg) v4) (fun r_25 => if r_25 = 0 then p_X3_ringOf_52 σ k5 v1 v2 v4 else oi v4 48 (oc (p_X0_has_0 (σ.2 27 v4.toNatClampNeg) v1) (fun r_39 => if r_39 = 0 then p_X3_ringOf_52 σ k5 v1 v2 v4 else oc (p_X0_with_0 v2 v4) (fun r_48 => p_X3_ringOf_52 σ k5 v1 r_48 v4))))))
set_option maxHeartbeats 4000000 in
set_option maxRecDepth 100000 in
theorem w_X3_ringOf_5 {p : Program} {l : Launch} {e : Env} {R : Room} {s : State} {m : MethodId} {args : Array Value} {below : List Frame} {meth : Method} {c : Code} {D : va_G} {ad : Nat → Nat} {cI cJ cZ : ClassId} {res : Int64} (hm : mx p s m args meth c cX3_ringOf 5 (some .long) wsX3_ringOf RX3) (hR : 1 ≤ R.frames ∧ 22 ≤ R.locals) (hK : va_K D vwCl (tyw cI cJ cZ) s) (hD : ∀ σ, va_D (aC ad) (wC ad cI cJ cZ σ)) (σ : SS) : ∀ (n : Nat) (v1 : Int32) (v2 : Int64) (v4 : Int32), p_X3_ringOf_5 σ n v1 v2 v4 = some res → ∀ (H : Heap) (locs : List Loc) (ls : Array Slot), va_P D vwCl (wC ad cI cJ cZ σ) H → va_S (aC ad) s.heap H locs → lv_has ls 5 [(0, .ref (ad 5)), (1, .int v1), (2, .long v2), (4, .int v4)] → W p l e R s m args below meth c H locs 0 0 (MQ below (va_Ql (fun (r : Int64) (u : SS) => r = res ∧ u = σ) (fun u t => va_P D vwCl (wC ad cI cJ cZ u) t.heap) (aC ad)) args s 0 0 (aC ad)) (F0 m 5 ls []) := by
  obtain ⟨hx, hb, hr, hml, hown, hts, hlk⟩ := id hm
  intro n
  induction n with
  | zero =>
    intro _ _ _ hf
    cases hf
  | succ n hk5 =>
    intro v1 v2 v4 hf H locs ls hP hS hl
    rw [p_X3_ringOf_5] at hf
    try dsimp only at hf
    refine lv_iload hx hb dX3_ringOf_5 (lv_at hl 3 rfl) ?_
    refine lv_aload_n hx hb dX3_ringOf_7 rfl (lv_at hl 0 rfl) ?_
    refine va_get (D := D) (ci := 2) (v := .ref (ad 2)) (C := RX3) (T := TX3) (N := 13) hx hb hts in_X3_ringOf_X3 hown hK hP 5 (wC_5 _ _ _ _ _) rfl 1 (by decide) (hts (.fieldLink RX3 31 "CallGraphs$Graph" "members" "LCallGraphs$Members;") (List.mem_of_getElem? (i := 1) rfl)) (fun _ h9 => h9) (fC_5_1 _ _) dX3_ringOf_8 ?_
    obtain ⟨r_11, hg_11, hf⟩ := oc_e hf
    refine mV_ri (wd := wC ad cI cJ cZ) (σ := σ) (As := []) (rest := [.int v4]) ⟨hx, hb, hml, hown, hts⟩ hK hP hD hS (c_X4_size l D ad cI cJ cZ σ hg_11) (cwV 0 hts gX3_ringOf_X4_size rfl rfl rfl hd_X4_size ⟨Nat.le_trans (Nat.le_of_ble_eq_true rfl) hR.1, Nat.le_trans (Nat.le_of_ble_eq_true rfl) hR.2⟩) rfl (wC_2 _ _ _ _ _) rfl hl.1 rfl (Nat.le_of_ble_eq_true rfl) dX3_ringOf_11 (fun H locs hP hS => ?_)
    refine lv_icmp_ge (tgt := 58) hx hb dX3_ringOf_14 (by decide) (fun c_14 => ?_) (fun c_14 => ?_)
    · rw [if_pos c_14] at hf
      refine lv_lload_n hx hb dX3_ringOf_58 rfl (lv_at hl 2 rfl) ?_
      exact rt_l (wd := wC ad cI cJ cZ) hx hb hr hlk ⟨Option.some.inj hf, rfl⟩ hP hS dX3_ringOf_59
    · rw [if_neg c_14] at hf
      refine lv_aload_n hx hb dX3_ringOf_17 rfl (lv_at hl 0 rfl) ?_
      refine va_get (D := D) (ci := 2) (v := .ref (ad 27)) (C := RX3) (T := TX3) (N := 13) hx hb hts in_X3_ringOf_X3 hown hK hP 5 (wC_5 _ _ _ _ _) rfl 7 (by decide) (hts (.fieldLink RX3 21 "CallGraphs$Graph" "comes" "[J") (List.mem_of_getElem? (i := 2) rfl)) (fun _ h9 => h9) (fC_5_7 _ _) dX3_ringOf_18 ?_
      refine lv_iload_n hx hb dX3_ringOf_21 rfl (lv_at hl 1 rfl) ?_
      obtain ⟨h_22, hf⟩ := oi_e hf
      refine va_lald hx hb hK hP 27 1 (wC_27 _ _ _ _ _) rfl h_22 dX3_ringOf_22 ?_
      refine lv_iload hx hb dX3_ringOf_23 (lv_at hl 3 rfl) ?_
      obtain ⟨r_25, hg_25, hf⟩ := oc_e hf
      refine mS_i (D := D) (As := [.long (σ.2 27 v1.toNatClampNeg), .int v4]) (rest := []) ⟨hx, hb, hml, hown, hts⟩ hP hS (c_X0_has l (σ.2 27 v1.toNatClampNeg) v4 hg_25) (va_cwS 2 hts gX3_ringOf_X0_has rfl rfl rfl hd_X0_has ⟨Nat.le_trans (Nat.le_of_ble_eq_true rfl) hR.1, Nat.le_trans (Nat.le_of_ble_eq_true rfl) hR.2⟩) rfl hl.1 rfl (Nat.le_of_ble_eq_true rfl) dX3_ringOf_25 (fun H locs hP hS => ?_)
      refine lv_if_eq (tgt := 52) hx hb dX3_ringOf_28 (by decide) (fun c_28 => ?_) (fun c_28 => ?_)
      · rw [if_pos c_28] at hf
        exact w_X3_ringOf_52 hm hR hK hD σ (p_X3_ringOf_5 σ n) hk5 v1 v2 v4 hf _ _ _ hP hS (lv_sub hl [0, 1, 2, 3] rfl)
      · rw [if_neg c_28] at hf
        refine lv_aload_n hx hb dX3_ringOf_31 rfl (lv_at hl 0 rfl) ?_
        refine va_get (D := D) (ci := 2) (v := .ref (ad 27)) (C := RX3) (T := TX3) (N := 13) hx hb hts in_X3_ringOf_X3 hown hK hP 5 (wC_5 _ _ _ _ _) rfl 7 (by decide) (hts (.fieldLink RX3 21 "CallGraphs$Graph" "comes" "[J") (List.mem_of_getElem? (i := 2) rfl)) (fun _ h9 => h9) (fC_5_7 _ _) dX3_ringOf_32 ?_
        refine lv_iload hx hb dX3_ringOf_35 (lv_at hl 3 rfl) ?_
        obtain ⟨h_37, hf⟩ := oi_e hf
        refine va_lald hx hb hK hP 27 1 (wC_27 _ _ _ _ _) rfl h_37 dX3_ringOf_37 ?_
        refine lv_iload_n hx hb dX3_ringOf_38 rfl (lv_at hl 1 rfl) ?_
        obtain ⟨r_39, hg_39, hf⟩ := oc_e hf
        refine mS_i (D := D) (As := [.long (σ.2 27 v4.toNatClampNeg), .int v1]) (rest := []) ⟨hx, hb, hml, hown, hts⟩ hP hS (c_X0_has l (σ.2 27 v4.toNatClampNeg) v1 hg_39) (va_cwS 2 hts gX3_ringOf_X0_has rfl rfl rfl hd_X0_has ⟨Nat.le_trans (Nat.le_of_ble_eq_true rfl) hR.1, Nat.le_trans (Nat.le_of_ble_eq_true rfl) hR.2⟩) rfl hl.1 rfl (Nat.le_of_ble_eq_true rfl) dX3_ringOf_39 (fun H locs hP hS => ?_)
        refine lv_if_eq (tgt := 52) hx hb dX3_ringOf_42 (by decide) (fun c_42 => ?_) (fun c_42 => ?_)
        · rw [if_pos c_42] at hf
          exact w_X3_ringOf_52 hm hR hK hD σ (p_X3_ringOf_5 σ n) hk5 v1 v2 v4 hf _ _ _ hP hS (lv_sub hl [0, 1, 2, 3] rfl)
        · rw [if_neg c_42] at hf
          refine lv_lload_n hx hb dX3_ringOf_45 rfl (lv_at hl 2 rfl) ?_
          refine lv_iload hx hb dX3_ringOf_46 (lv_at hl 3 rfl) ?_
          obtain ⟨r_48, hg_48, hf⟩ := oc_e hf
          refine mS_l (D := D) (As := [.long v2, .int v4]) (rest := []) ⟨hx, hb, hml, hown, hts⟩ hP hS (c_X0_with l v2 v4 hg_48) (va_cwS 2 hts gX3_ringOf_X0_with rfl rfl rfl hd_X0_with ⟨Nat.le_trans (Nat.le_of_ble_eq_true rfl) hR.1, Nat.le_trans (Nat.le_of_ble_eq_true rfl) hR.2⟩) rfl hl.1 rfl (Nat.le_of_ble_eq_true rfl) dX3_ringOf_48 (fun H locs hP hS => ?_)
          refine lv_lstore_n (lv' := [(2, .long r_48), (0, .ref (ad 5)), (1, .int v1), (4, .int v4)]) hx hb dX3_ringOf_51 rfl hl (by decide) rfl (fun ls hl => ?_)
          exact w_X3_ringOf_52 hm hR hK hD σ (p_X3_ringOf_5 σ n) hk5 v1 r_48 v4 hf _ _ _ hP hS (lv_sub hl [1, 2, 0, 3] rfl)
def p_X3_ringOf_0 (σ : SS) (v1 : Int32) : Option (Int64) := p_X3_ringOf_5 σ 100000 v1 0 0
set_option maxHeartbeats 4000000 in
set_option maxRecDepth 100000 in
theorem w_X3_ringOf_0 {p : Program} {l : Launch} {e : Env} {R : Room} {s : State} {m : MethodId} {args : Array Value} {below : List Frame} {meth : Method} {c : Code} {D : va_G} {ad : Nat → Nat} {cI cJ cZ : ClassId} {res : Int64} (hm : mx p s m args meth c cX3_ringOf 5 (some .long) wsX3_ringOf RX3) (hR : 1 ≤ R.frames ∧ 22 ≤ R.locals) (hK : va_K D vwCl (tyw cI cJ cZ) s) (hD : ∀ σ, va_D (aC ad) (wC ad cI cJ cZ σ)) (σ : SS) (v1 : Int32) (hf : p_X3_ringOf_0 σ v1 = some res) (H : Heap) (locs : List Loc) (ls : Array Slot) (hP : va_P D vwCl (wC ad cI cJ cZ σ) H) (hS : va_S (aC ad) s.heap H locs) (hl : lv_has ls 5 [(0, .ref (ad 5)), (1, .int v1)]) : W p l e R s m args below meth c H locs 0 0 (MQ below (va_Ql (fun (r : Int64) (u : SS) => r = res ∧ u = σ) (fun u t => va_P D vwCl (wC ad cI cJ cZ u) t.heap) (aC ad)) args s 0 0 (aC ad)) (F0 m 0 ls []) := by
  obtain ⟨hx, hb, hr, hml, hown, hts, hlk⟩ := id hm
  unfold p_X3_ringOf_0 at hf
  refine lv_lconst (v := 0) hx hb dX3_ringOf_0 (by decide) ?_
  refine lv_lstore_n (lv' := [(2, .long 0), (0, .ref (ad 5)), (1, .int v1)]) hx hb dX3_ringOf_1 rfl hl (by decide) rfl (fun ls hl => ?_)
  refine lv_iconst (v := 0) hx hb dX3_ringOf_2 (by decide) ?_
  refine lv_istore (lv' := [(4, .int 0), (2, .long 0), (0, .ref (ad 5)), (1, .int v1)]) hx hb dX3_ringOf_3 hl (by decide) rfl (fun ls hl => ?_)
  exact w_X3_ringOf_5 hm hR hK hD σ 100000 v1 0 0 hf _ _ _ hP hS (lv_sub hl [2, 3, 1, 0] rfl)
theorem hd_X3_ringOf : yX3_ringOf.cls = RX3 ∧ yX3_ringOf.cls ≠ "java/lang/invoke/MethodHandle" ∧ yX3_ringOf.cls ≠ "java/lang/invoke/VarHandle" ∧ (parseMethodDescriptor yX3_ringOf.desc).map (fun d => d.parameters.length) = some 1 := by decide +kernel
set_option maxHeartbeats 4000000 in
set_option maxRecDepth 100000 in
theorem c_X3_ringOf (l : Launch) (D : va_G) (ad : Nat → Nat) (cI cJ cZ : ClassId) (σ : SS) (v1 : Int32) {res : Int64} (hf : p_X3_ringOf_0 σ v1 = some res) : Met l yX3_ringOf wsX3_ringOf ({ frames := 1, cells := 0, slots := 0, locals := 22 } : Room) (PW D (tyw cI cJ cZ) (wC ad cI cJ cZ σ) [.ref (ad 5), .int v1]) (va_Ql (fun (r : Int64) (u : SS) => r = res ∧ u = σ) (fun u t => va_P D vwCl (wC ad cI cJ cZ u) t.heap) (aC ad)) 0 0 (aC ad) := by
  refine Met.ofW (cc := cX3_ringOf) (maxL := 5) (ret := (some .long)) (by decide) rfl ?_
  intro p e s m args below meth c s₁ B hml hv
  obtain ⟨rfl, hP, hK, hD0⟩ := hv
  have hD : ∀ σ, va_D (aC ad) (wC ad cI cJ cZ σ) := fun σ => wd_D hD0 (wC_map _ _ _ _ _) (wC_map _ _ _ _ _)
  have hm : mx p s m _ meth c cX3_ringOf 5 (some .long) wsX3_ringOf RX3 := ⟨B.exec, B.bytes, B.returns, hml, findClass_of_methodNamed B.named, atoms_spec (ws := wsX3_ringOf) B.pre, B.notSynchronized⟩
  have hl := lv_entry ([.ref (ad 5), .int v1]) (n := 5) (Nat.le_of_ble_eq_true rfl)
  rw [lg_entry_eq]
  generalize (lg_sl ([.ref (ad 5), .int v1]) ++ List.replicate (5 - (lg_sl ([.ref (ad 5), .int v1])).length) Slot.unset).toArray = ls at hl ⊢
  exact w_X3_ringOf_0 hm ⟨Nat.le_refl _, Nat.le_refl _⟩ hK hD σ v1 hf _ _ _ hP va_S.rf hl
/-! CallGraphs$Graph.countRecursive()I -/
theorem in_X3_countRecursive_X3 : ∀ w ∈ u_ws RX3 TX3 13, w ∈ wsX3_countRecursive := fun w h => List.mem_cons_of_mem _ (List.mem_append_left _ (List.mem_append_right _ h))
def p_X3_countRecursive_26 (σ : SS) (k4 : Int32 → Int32 → Option (Int32)) (v1 : Int32) (v2 : Int32) : Option (Int32) := k4 v1 (v2 + 1)
set_option maxHeartbeats 4000000 in
set_option maxRecDepth 100000 in
theorem w_X3_countRecursive_26 {p : Program} {l : Launch} {e : Env} {R : Room} {s : State} {m : MethodId} {args : Array Value} {below : List Frame} {meth : Method} {c : Code} {D : va_G} {ad : Nat → Nat} {cI cJ cZ : ClassId} {res : Int32} (hm : mx p s m args meth c cX3_countRecursive 3 (some .int) wsX3_countRecursive RX3) (hR : 2 ≤ R.frames ∧ 43 ≤ R.locals) (hK : va_K D vwCl (tyw cI cJ cZ) s) (hD : ∀ σ, va_D (aC ad) (wC ad cI cJ cZ σ)) (σ : SS) (k4 : Int32 → Int32 → Option (Int32)) (hk4 : ∀ (v1 : Int32) (v2 : Int32), k4 v1 v2 = some res → ∀ (H : Heap) (locs : List Loc) (ls : Array Slot), va_P D vwCl (wC ad cI cJ cZ σ) H → va_S (aC ad) s.heap H locs → lv_has ls 3 [(0, .ref (ad 5)), (1, .int v1), (2, .int v2)] → W p l e R s m args below meth c H locs 0 0 (MQ below (va_Qi (fun (r : Int32) (u : SS) => r = res ∧ u = σ) (fun u t => va_P D vwCl (wC ad cI cJ cZ u) t.heap) (aC ad)) args s 0 0 (aC ad)) (F0 m 4 ls [])) (v1 : Int32) (v2 : Int32) (hf : p_X3_countRecursive_26 σ k4 v1 v2 = some res) (H : Heap) (locs : List Loc) (ls : Array Slot) (hP : va_P D vwCl (wC ad cI cJ cZ σ) H) (hS : va_S (aC ad) s.heap H locs) (hl : lv_has ls 3 [(0, .ref (ad 5)), (1, .int v1), (2, .int v2)]) : W p l e R s m args below meth c H locs 0 0 (MQ below (va_Qi (fun (r : Int32) (u : SS) => r = res ∧ u = σ) (fun u t => va_P D vwCl (wC ad cI cJ cZ u) t.heap) (aC ad)) args s 0 0 (aC ad)) (F0 m 26 ls []) := by
  obtain ⟨hx, hb, hr, hml, hown, hts, hlk⟩ := id hm
  unfold p_X3_countRecursive_26 at hf
  refine lv_iinc (v := (v2 + 1)) (lv' := [(2, .int (v2 + 1)), (0, .ref (ad 5)), (1, .int v1)]) hx hb dX3_countRecursive_26 hl (k := 2) rfl rfl (by decide) rfl (fun ls hl => ?_)
  refine lv_goto (tgt := 4) hx hb dX3_countRecursive_29 (by decide) ?_
  exact hk4 v1 (v2 + 1) hf _ _ _ hP hS (lv_sub hl [1, 2, 0] rfl)
def p_X3_countRecursive_4 (σ : SS) : Nat → Int32 → Int32 → Option (Int32)
  | 0, _, _ => none
  | n + 1, v1, v2 => let k4 := p_X3_countRecursive_4 σ n; oc (p_X4_size_0 σ) (fun r_9 => if r_9 ≤ v2 then some v1 else oc (p_X3_isRecursive_0 σ v2) (fun r_17 => if r_17 = 0 then p_X3_countRecursive_26 σ k4 v1 v2 else p_X3_countRecursive_26 σ k4 (v1 + 1) v2))
set_option maxHeartbeats 4000000 in
set_option maxRecDepth 100000 in
theorem w_X3_countRecursive_4 {p : Program} {l : Launch} {e : Env} {R : Room} {s : State} {m : MethodId} {args : Array Value} {below : List Frame} {meth : Method} {c : Code} {D : va_G} {ad : Nat → Nat} {cI cJ cZ : ClassId} {res : Int32} (hm : mx p s m args meth c cX3_countRecursive 3 (some .int) wsX3_countRecursive RX3) (hR : 2 ≤ R.frames ∧ 43 ≤ R.locals) (hK : va_K D vwCl (tyw cI cJ cZ) s) (hD : ∀ σ, va_D (aC ad) (wC ad cI cJ cZ σ)) (σ : SS) : ∀ (n : Nat) (v1 : Int32) (v2 : Int32), p_X3_countRecursive_4 σ n v1 v2 = some res → ∀ (H : Heap) (locs : List Loc) (ls : Array Slot), va_P D vwCl (wC ad cI cJ cZ σ) H → va_S (aC ad) s.heap H locs → lv_has ls 3 [(0, .ref (ad 5)), (1, .int v1), (2, .int v2)] → W p l e R s m args below meth c H locs 0 0 (MQ below (va_Qi (fun (r : Int32) (u : SS) => r = res ∧ u = σ) (fun u t => va_P D vwCl (wC ad cI cJ cZ u) t.heap) (aC ad)) args s 0 0 (aC ad)) (F0 m 4 ls []) := by
  obtain ⟨hx, hb, hr, hml, hown, hts, hlk⟩ := id hm
  intro n
  induction n with
  | zero =>
    intro _ _ hf
    cases hf
  | succ n hk4 =>
    intro v1 v2 hf H locs ls hP hS hl
    rw [p_X3_countRecursive_4] at hf
    try dsimp only at hf
    refine lv_iload_n hx hb dX3_countRecursive_4 rfl (lv_at hl 2 rfl) ?_
    refine lv_aload_n hx hb dX3_countRecursive_5 rfl (lv_at hl 0 rfl) ?_
    refine va_get (D := D) (ci := 2) (v := .ref (ad 2)) (C := RX3) (T := TX3) (N := 13) hx hb hts in_X3_countRecursive_X3 hown hK hP 5 (wC_5 _ _ _ _ _) rfl 1 (by decide) (hts (.fieldLink RX3 31 "CallGraphs$Graph" "members" "LCallGraphs$Members;") (List.mem_of_getElem? (i := 1) rfl)) (fun _ h9 => h9) (fC_5_1 _ _) dX3_countRecursive_6 ?_
    obtain ⟨r_9, hg_9, hf⟩ := oc_e hf
    refine mV_ri (wd := wC ad cI cJ cZ) (σ := σ) (As := []) (rest := [.int v2]) ⟨hx, hb, hml, hown, hts⟩ hK hP hD hS (c_X4_size l D ad cI cJ cZ σ hg_9) (cwV 0 hts gX3_countRecursive_X4_size rfl rfl rfl hd_X4_size ⟨Nat.le_trans (Nat.le_of_ble_eq_true rfl) hR.1, Nat.le_trans (Nat.le_of_ble_eq_true rfl) hR.2⟩) rfl (wC_2 _ _ _ _ _) rfl hl.1 rfl (Nat.le_of_ble_eq_true rfl) dX3_countRecursive_9 (fun H locs hP hS => ?_)
    refine lv_icmp_ge (tgt := 32) hx hb dX3_countRecursive_12 (by decide) (fun c_12 => ?_) (fun c_12 => ?_)
    · rw [if_pos c_12] at hf
      refine lv_iload_n hx hb dX3_countRecursive_32 rfl (lv_at hl 1 rfl) ?_
      exact rt_i (wd := wC ad cI cJ cZ) hx hb hr hlk ⟨Option.some.inj hf, rfl⟩ hP hS dX3_countRecursive_33
    · rw [if_neg c_12] at hf
      refine lv_aload_n hx hb dX3_countRecursive_15 rfl (lv_at hl 0 rfl) ?_
      refine lv_iload_n hx hb dX3_countRecursive_16 rfl (lv_at hl 2 rfl) ?_
      obtain ⟨r_17, hg_17, hf⟩ := oc_e hf
      refine mV_ri (wd := wC ad cI cJ cZ) (σ := σ) (As := [.int v2]) (rest := []) ⟨hx, hb, hml, hown, hts⟩ hK hP hD hS (c_X3_isRecursive l D ad cI cJ cZ σ v2 hg_17) (cwV 1 hts gX3_countRecursive_X3_isRecursive rfl rfl rfl hd_X3_isRecursive ⟨Nat.le_trans (Nat.le_of_ble_eq_true rfl) hR.1, Nat.le_trans (Nat.le_of_ble_eq_true rfl) hR.2⟩) rfl (wC_5 _ _ _ _ _) rfl hl.1 rfl (Nat.le_of_ble_eq_true rfl) dX3_countRecursive_17 (fun H locs hP hS => ?_)
      refine lv_if_eq (tgt := 26) hx hb dX3_countRecursive_20 (by decide) (fun c_20 => ?_) (fun c_20 => ?_)
      · rw [if_pos c_20] at hf
        exact w_X3_countRecursive_26 hm hR hK hD σ (p_X3_countRecursive_4 σ n) hk4 v1 v2 hf _ _ _ hP hS (lv_sub hl [0, 1, 2] rfl)
      · rw [if_neg c_20] at hf
        refine lv_iinc (v := (v1 + 1)) (lv' := [(1, .int (v1 + 1)), (0, .ref (ad 5)), (2, .int v2)]) hx hb dX3_countRecursive_23 hl (k := 1) rfl rfl (by decide) rfl (fun ls hl => ?_)
        exact w_X3_countRecursive_26 hm hR hK hD σ (p_X3_countRecursive_4 σ n) hk4 (v1 + 1) v2 hf _ _ _ hP hS (lv_sub hl [1, 0, 2] rfl)
def p_X3_countRecursive_0 (σ : SS) : Option (Int32) := p_X3_countRecursive_4 σ 100000 0 0
set_option maxHeartbeats 4000000 in
set_option maxRecDepth 100000 in
theorem w_X3_countRecursive_0 {p : Program} {l : Launch} {e : Env} {R : Room} {s : State} {m : MethodId} {args : Array Value} {below : List Frame} {meth : Method} {c : Code} {D : va_G} {ad : Nat → Nat} {cI cJ cZ : ClassId} {res : Int32} (hm : mx p s m args meth c cX3_countRecursive 3 (some .int) wsX3_countRecursive RX3) (hR : 2 ≤ R.frames ∧ 43 ≤ R.locals) (hK : va_K D vwCl (tyw cI cJ cZ) s) (hD : ∀ σ, va_D (aC ad) (wC ad cI cJ cZ σ)) (σ : SS) (hf : p_X3_countRecursive_0 σ = some res) (H : Heap) (locs : List Loc) (ls : Array Slot) (hP : va_P D vwCl (wC ad cI cJ cZ σ) H) (hS : va_S (aC ad) s.heap H locs) (hl : lv_has ls 3 [(0, .ref (ad 5))]) : W p l e R s m args below meth c H locs 0 0 (MQ below (va_Qi (fun (r : Int32) (u : SS) => r = res ∧ u = σ) (fun u t => va_P D vwCl (wC ad cI cJ cZ u) t.heap) (aC ad)) args s 0 0 (aC ad)) (F0 m 0 ls []) := by
  obtain ⟨hx, hb, hr, hml, hown, hts, hlk⟩ := id hm
  unfold p_X3_countRecursive_0 at hf
  refine lv_iconst (v := 0) hx hb dX3_countRecursive_0 (by decide) ?_
  refine lv_istore_n (lv' := [(1, .int 0), (0, .ref (ad 5))]) hx hb dX3_countRecursive_1 rfl hl (by decide) rfl (fun ls hl => ?_)
  refine lv_iconst (v := 0) hx hb dX3_countRecursive_2 (by decide) ?_
  refine lv_istore_n (lv' := [(2, .int 0), (1, .int 0), (0, .ref (ad 5))]) hx hb dX3_countRecursive_3 rfl hl (by decide) rfl (fun ls hl => ?_)
  exact w_X3_countRecursive_4 hm hR hK hD σ 100000 0 0 hf _ _ _ hP hS (lv_sub hl [2, 1, 0] rfl)
theorem hd_X3_countRecursive : yX3_countRecursive.cls = RX3 ∧ yX3_countRecursive.cls ≠ "java/lang/invoke/MethodHandle" ∧ yX3_countRecursive.cls ≠ "java/lang/invoke/VarHandle" ∧ (parseMethodDescriptor yX3_countRecursive.desc).map (fun d => d.parameters.length) = some 0 := by decide +kernel
set_option maxHeartbeats 4000000 in
set_option maxRecDepth 100000 in
theorem c_X3_countRecursive (l : Launch) (D : va_G) (ad : Nat → Nat) (cI cJ cZ : ClassId) (σ : SS) {res : Int32} (hf : p_X3_countRecursive_0 σ = some res) : Met l yX3_countRecursive wsX3_countRecursive ({ frames := 2, cells := 0, slots := 0, locals := 43 } : Room) (PW D (tyw cI cJ cZ) (wC ad cI cJ cZ σ) [.ref (ad 5)]) (va_Qi (fun (r : Int32) (u : SS) => r = res ∧ u = σ) (fun u t => va_P D vwCl (wC ad cI cJ cZ u) t.heap) (aC ad)) 0 0 (aC ad) := by
  refine Met.ofW (cc := cX3_countRecursive) (maxL := 3) (ret := (some .int)) (by decide) rfl ?_
  intro p e s m args below meth c s₁ B hml hv
  obtain ⟨rfl, hP, hK, hD0⟩ := hv
  have hD : ∀ σ, va_D (aC ad) (wC ad cI cJ cZ σ) := fun σ => wd_D hD0 (wC_map _ _ _ _ _) (wC_map _ _ _ _ _)
  have hm : mx p s m _ meth c cX3_countRecursive 3 (some .int) wsX3_countRecursive RX3 := ⟨B.exec, B.bytes, B.returns, hml, findClass_of_methodNamed B.named, atoms_spec (ws := wsX3_countRecursive) B.pre, B.notSynchronized⟩
  have hl := lv_entry ([.ref (ad 5)]) (n := 3) (Nat.le_of_ble_eq_true rfl)
  rw [lg_entry_eq]
  generalize (lg_sl ([.ref (ad 5)]) ++ List.replicate (3 - (lg_sl ([.ref (ad 5)])).length) Slot.unset).toArray = ls at hl ⊢
  exact w_X3_countRecursive_0 hm ⟨Nat.le_refl _, Nat.le_refl _⟩ hK hD σ hf _ _ _ hP va_S.rf hl
/-! CallGraphs$Graph.countPairs()I -/
theorem in_X3_countPairs_X3 : ∀ w ∈ u_ws RX3 TX3 13, w ∈ wsX3_countPairs := fun w h => List.mem_cons_of_mem _ (List.mem_append_left _ (List.mem_append_right _ h))
def p_X3_countPairs_4 (σ : SS) : Nat → Int32 → Int32 → Option (Int32)
  | 0, _, _ => none
  | n + 1, v1, v2 => let k4 := p_X3_countPairs_4 σ n; oc (p_X5_size_0 σ) (fun r_9 => if r_9 ≤ v2 then some v1 else oi v2 160 (oc (p_J13_bitCount_95d88_0 (σ.2 25 v2.toNatClampNeg)) (fun r_22 => k4 (v1 + r_22) (v2 + 1))))
set_option maxHeartbeats 4000000 in
set_option maxRecDepth 100000 in
theorem w_X3_countPairs_4 {p : Program} {l : Launch} {e : Env} {R : Room} {s : State} {m : MethodId} {args : Array Value} {below : List Frame} {meth : Method} {c : Code} {D : va_G} {ad : Nat → Nat} {cI cJ cZ : ClassId} {res : Int32} (hm : mx p s m args meth c cX3_countPairs 3 (some .int) wsX3_countPairs RX3) (hR : 1 ≤ R.frames ∧ 21 ≤ R.locals) (hK : va_K D vwCl (tyw cI cJ cZ) s) (hD : ∀ σ, va_D (aC ad) (wC ad cI cJ cZ σ)) (σ : SS) : ∀ (n : Nat) (v1 : Int32) (v2 : Int32), p_X3_countPairs_4 σ n v1 v2 = some res → ∀ (H : Heap) (locs : List Loc) (ls : Array Slot), va_P D vwCl (wC ad cI cJ cZ σ) H → va_S (aC ad) s.heap H locs → lv_has ls 3 [(0, .ref (ad 5)), (1, .int v1), (2, .int v2)] → W p l e R s m args below meth c H locs 0 0 (MQ below (va_Qi (fun (r : Int32) (u : SS) => r = res ∧ u = σ) (fun u t => va_P D vwCl (wC ad cI cJ cZ u) t.heap) (aC ad)) args s 0 0 (aC ad)) (F0 m 4 ls []) := by
  obtain ⟨hx, hb, hr, hml, hown, hts, hlk⟩ := id hm
  intro n
  induction n with
  | zero =>
    intro _ _ hf
    cases hf
  | succ n hk4 =>
    intro v1 v2 hf H locs ls hP hS hl
    rw [p_X3_countPairs_4] at hf
    try dsimp only at hf
    refine lv_iload_n hx hb dX3_countPairs_4 rfl (lv_at hl 2 rfl) ?_
    refine lv_aload_n hx hb dX3_countPairs_5 rfl (lv_at hl 0 rfl) ?_
    refine va_get (D := D) (ci := 2) (v := .ref (ad 4)) (C := RX3) (T := TX3) (N := 13) hx hb hts in_X3_countPairs_X3 hown hK hP 5 (wC_5 _ _ _ _ _) rfl 3 (by decide) (hts (.fieldLink RX3 39 "CallGraphs$Graph" "ops" "LCallGraphs$Ops;") (List.mem_of_getElem? (i := 1) rfl)) (fun _ h9 => h9) (fC_5_3 _ _) dX3_countPairs_6 ?_
    obtain ⟨r_9, hg_9, hf⟩ := oc_e hf
    refine mV_ri (wd := wC ad cI cJ cZ) (σ := σ) (As := []) (rest := [.int v2]) ⟨hx, hb, hml, hown, hts⟩ hK hP hD hS (c_X5_size l D ad cI cJ cZ σ hg_9) (cwV 0 hts gX3_countPairs_X5_size rfl rfl rfl hd_X5_size ⟨Nat.le_trans (Nat.le_of_ble_eq_true rfl) hR.1, Nat.le_trans (Nat.le_of_ble_eq_true rfl) hR.2⟩) rfl (wC_4 _ _ _ _ _) rfl hl.1 rfl (Nat.le_of_ble_eq_true rfl) dX3_countPairs_9 (fun H locs hP hS => ?_)
    refine lv_icmp_ge (tgt := 33) hx hb dX3_countPairs_12 (by decide) (fun c_12 => ?_) (fun c_12 => ?_)
    · rw [if_pos c_12] at hf
      refine lv_iload_n hx hb dX3_countPairs_33 rfl (lv_at hl 1 rfl) ?_
      exact rt_i (wd := wC ad cI cJ cZ) hx hb hr hlk ⟨Option.some.inj hf, rfl⟩ hP hS dX3_countPairs_34
    · rw [if_neg c_12] at hf
      refine lv_iload_n hx hb dX3_countPairs_15 rfl (lv_at hl 1 rfl) ?_
      refine lv_aload_n hx hb dX3_countPairs_16 rfl (lv_at hl 0 rfl) ?_
      refine va_get (D := D) (ci := 2) (v := .ref (ad 25)) (C := RX3) (T := TX3) (N := 13) hx hb hts in_X3_countPairs_X3 hown hK hP 5 (wC_5 _ _ _ _ _) rfl 5 (by decide) (hts (.fieldLink RX3 15 "CallGraphs$Graph" "callees" "[J") (List.mem_of_getElem? (i := 2) rfl)) (fun _ h9 => h9) (fC_5_5 _ _) dX3_countPairs_17 ?_
      refine lv_iload_n hx hb dX3_countPairs_20 rfl (lv_at hl 2 rfl) ?_
      obtain ⟨h_21, hf⟩ := oi_e hf
      refine va_lald hx hb hK hP 25 1 (wC_25 _ _ _ _ _) rfl h_21 dX3_countPairs_21 ?_
      obtain ⟨r_22, hg_22, hf⟩ := oc_e hf
      refine mS_i (D := D) (As := [.long (σ.2 25 v2.toNatClampNeg)]) (rest := [.int v1]) ⟨hx, hb, hml, hown, hts⟩ hP hS (c_J13_bitCount_95d88 l (σ.2 25 v2.toNatClampNeg) hg_22) (va_cwS 1 hts gX3_countPairs_J13_bitCount_95d88 rfl rfl rfl hd_J13_bitCount_95d88 ⟨Nat.le_trans (Nat.le_of_ble_eq_true rfl) hR.1, Nat.le_trans (Nat.le_of_ble_eq_true rfl) hR.2⟩) rfl hl.1 rfl (Nat.le_of_ble_eq_true rfl) dX3_countPairs_22 (fun H locs hP hS => ?_)
      refine lv_iadd hx hb dX3_countPairs_25 ?_
      refine lv_istore_n (lv' := [(1, .int (v1 + r_22)), (0, .ref (ad 5)), (2, .int v2)]) hx hb dX3_countPairs_26 rfl hl (by decide) rfl (fun ls hl => ?_)
      refine lv_iinc (v := (v2 + 1)) (lv' := [(2, .int (v2 + 1)), (1, .int (v1 + r_22)), (0, .ref (ad 5))]) hx hb dX3_countPairs_27 hl (k := 2) rfl rfl (by decide) rfl (fun ls hl => ?_)
      refine lv_goto (tgt := 4) hx hb dX3_countPairs_30 (by decide) ?_
      exact hk4 (v1 + r_22) (v2 + 1) hf _ _ _ hP hS (lv_sub hl [2, 1, 0] rfl)
def p_X3_countPairs_0 (σ : SS) : Option (Int32) := p_X3_countPairs_4 σ 100000 0 0
set_option maxHeartbeats 4000000 in
set_option maxRecDepth 100000 in
theorem w_X3_countPairs_0 {p : Program} {l : Launch} {e : Env} {R : Room} {s : State} {m : MethodId} {args : Array Value} {below : List Frame} {meth : Method} {c : Code} {D : va_G} {ad : Nat → Nat} {cI cJ cZ : ClassId} {res : Int32} (hm : mx p s m args meth c cX3_countPairs 3 (some .int) wsX3_countPairs RX3) (hR : 1 ≤ R.frames ∧ 21 ≤ R.locals) (hK : va_K D vwCl (tyw cI cJ cZ) s) (hD : ∀ σ, va_D (aC ad) (wC ad cI cJ cZ σ)) (σ : SS) (hf : p_X3_countPairs_0 σ = some res) (H : Heap) (locs : List Loc) (ls : Array Slot) (hP : va_P D vwCl (wC ad cI cJ cZ σ) H) (hS : va_S (aC ad) s.heap H locs) (hl : lv_has ls 3 [(0, .ref (ad 5))]) : W p l e R s m args below meth c H locs 0 0 (MQ below (va_Qi (fun (r : Int32) (u : SS) => r = res ∧ u = σ) (fun u t => va_P D vwCl (wC ad cI cJ cZ u) t.heap) (aC ad)) args s 0 0 (aC ad)) (F0 m 0 ls []) := by
  obtain ⟨hx, hb, hr, hml, hown, hts, hlk⟩ := id hm
  unfold p_X3_countPairs_0 at hf
  refine lv_iconst (v := 0) hx hb dX3_countPairs_0 (by decide) ?_
  refine lv_istore_n (lv' := [(1, .int 0), (0, .ref (ad 5))]) hx hb dX3_countPairs_1 rfl hl (by decide) rfl (fun ls hl => ?_)
  refine lv_iconst (v := 0) hx hb dX3_countPairs_2 (by decide) ?_
  refine lv_istore_n (lv' := [(2, .int 0), (1, .int 0), (0, .ref (ad 5))]) hx hb dX3_countPairs_3 rfl hl (by decide) rfl (fun ls hl => ?_)
  exact w_X3_countPairs_4 hm hR hK hD σ 100000 0 0 hf _ _ _ hP hS (lv_sub hl [2, 1, 0] rfl)
theorem hd_X3_countPairs : yX3_countPairs.cls = RX3 ∧ yX3_countPairs.cls ≠ "java/lang/invoke/MethodHandle" ∧ yX3_countPairs.cls ≠ "java/lang/invoke/VarHandle" ∧ (parseMethodDescriptor yX3_countPairs.desc).map (fun d => d.parameters.length) = some 0 := by decide +kernel
set_option maxHeartbeats 4000000 in
set_option maxRecDepth 100000 in
theorem c_X3_countPairs (l : Launch) (D : va_G) (ad : Nat → Nat) (cI cJ cZ : ClassId) (σ : SS) {res : Int32} (hf : p_X3_countPairs_0 σ = some res) : Met l yX3_countPairs wsX3_countPairs ({ frames := 1, cells := 0, slots := 0, locals := 21 } : Room) (PW D (tyw cI cJ cZ) (wC ad cI cJ cZ σ) [.ref (ad 5)]) (va_Qi (fun (r : Int32) (u : SS) => r = res ∧ u = σ) (fun u t => va_P D vwCl (wC ad cI cJ cZ u) t.heap) (aC ad)) 0 0 (aC ad) := by
  refine Met.ofW (cc := cX3_countPairs) (maxL := 3) (ret := (some .int)) (by decide) rfl ?_
  intro p e s m args below meth c s₁ B hml hv
  obtain ⟨rfl, hP, hK, hD0⟩ := hv
  have hD : ∀ σ, va_D (aC ad) (wC ad cI cJ cZ σ) := fun σ => wd_D hD0 (wC_map _ _ _ _ _) (wC_map _ _ _ _ _)
  have hm : mx p s m _ meth c cX3_countPairs 3 (some .int) wsX3_countPairs RX3 := ⟨B.exec, B.bytes, B.returns, hml, findClass_of_methodNamed B.named, atoms_spec (ws := wsX3_countPairs) B.pre, B.notSynchronized⟩
  have hl := lv_entry ([.ref (ad 5)]) (n := 3) (Nat.le_of_ble_eq_true rfl)
  rw [lg_entry_eq]
  generalize (lg_sl ([.ref (ad 5)]) ++ List.replicate (3 - (lg_sl ([.ref (ad 5)])).length) Slot.unset).toArray = ls at hl ⊢
  exact w_X3_countPairs_0 hm ⟨Nat.le_refl _, Nat.le_refl _⟩ hK hD σ hf _ _ _ hP va_S.rf hl
/-! CallGraphs$Graph.faultsOfMade(III)I -/
theorem in_X3_faultsOfMade_X3 : ∀ w ∈ u_ws RX3 TX3 13, w ∈ wsX3_faultsOfMade := fun w h => List.mem_cons_of_mem _ (List.mem_append_left _ (List.mem_append_left _ (List.mem_append_left _ (List.mem_append_right _ h))))
def p_X3_faultsOfMade_64 (σ : SS) (k6 : Int32 → Int32 → Int32 → Int32 → Int32 → Option (Int32)) (v1 : Int32) (v2 : Int32) (v3 : Int32) (v4 : Int32) (v5 : Int32) : Option (Int32) := k6 v1 v2 v3 v4 (v5 + 1)
set_option maxHeartbeats 4000000 in
set_option maxRecDepth 100000 in
theorem w_X3_faultsOfMade_64 {p : Program} {l : Launch} {e : Env} {R : Room} {s : State} {m : MethodId} {args : Array Value} {below : List Frame} {meth : Method} {c : Code} {D : va_G} {ad : Nat → Nat} {cI cJ cZ : ClassId} {res : Int32} (hm : mx p s m args meth c cX3_faultsOfMade 6 (some .int) wsX3_faultsOfMade RX3) (hR : 2 ≤ R.frames ∧ 46 ≤ R.locals) (hK : va_K D vwCl (tyw cI cJ cZ) s) (hD : ∀ σ, va_D (aC ad) (wC ad cI cJ cZ σ)) (σ : SS) (k6 : Int32 → Int32 → Int32 → Int32 → Int32 → Option (Int32)) (hk6 : ∀ (v1 : Int32) (v2 : Int32) (v3 : Int32) (v4 : Int32) (v5 : Int32), k6 v1 v2 v3 v4 v5 = some res → ∀ (H : Heap) (locs : List Loc) (ls : Array Slot), va_P D vwCl (wC ad cI cJ cZ σ) H → va_S (aC ad) s.heap H locs → lv_has ls 6 [(0, .ref (ad 5)), (1, .int v1), (2, .int v2), (3, .int v3), (4, .int v4), (5, .int v5)] → W p l e R s m args below meth c H locs 0 0 (MQ below (va_Qi (fun (r : Int32) (u : SS) => r = res ∧ u = σ) (fun u t => va_P D vwCl (wC ad cI cJ cZ u) t.heap) (aC ad)) args s 0 0 (aC ad)) (F0 m 6 ls [])) (v1 : Int32) (v2 : Int32) (v3 : Int32) (v4 : Int32) (v5 : Int32) (hf : p_X3_faultsOfMade_64 σ k6 v1 v2 v3 v4 v5 = some res) (H : Heap) (locs : List Loc) (ls : Array Slot) (hP : va_P D vwCl (wC ad cI cJ cZ σ) H) (hS : va_S (aC ad) s.heap H locs) (hl : lv_has ls 6 [(0, .ref (ad 5)), (1, .int v1), (2, .int v2), (3, .int v3), (4, .int v4), (5, .int v5)]) : W p l e R s m args below meth c H locs 0 0 (MQ below (va_Qi (fun (r : Int32) (u : SS) => r = res ∧ u = σ) (fun u t => va_P D vwCl (wC ad cI cJ cZ u) t.heap) (aC ad)) args s 0 0 (aC ad)) (F0 m 64 ls []) := by
  obtain ⟨hx, hb, hr, hml, hown, hts, hlk⟩ := id hm
  unfold p_X3_faultsOfMade_64 at hf
  refine lv_iinc (v := (v5 + 1)) (lv' := [(5, .int (v5 + 1)), (0, .ref (ad 5)), (1, .int v1), (2, .int v2), (3, .int v3), (4, .int v4)]) hx hb dX3_faultsOfMade_64 hl (k := 5) rfl rfl (by decide) rfl (fun ls hl => ?_)
  refine lv_goto (tgt := 6) hx hb dX3_faultsOfMade_67 (by decide) ?_
  exact hk6 v1 v2 v3 v4 (v5 + 1) hf _ _ _ hP hS (lv_sub hl [1, 2, 3, 4, 5, 0] rfl)
def p_X3_faultsOfMade_93 (σ : SS) (t0 : Int32) : Option (Int32) := some t0
set_option maxHeartbeats 4000000 in
set_option maxRecDepth 100000 in
theorem w_X3_faultsOfMade_93 {p : Program} {l : Launch} {e : Env} {R : Room} {s : State} {m : MethodId} {args : Array Value} {below : List Frame} {meth : Method} {c : Code} {D : va_G} {ad : Nat → Nat} {cI cJ cZ : ClassId} {res : Int32} (hm : mx p s m args meth c cX3_faultsOfMade 6 (some .int) wsX3_faultsOfMade RX3) (hR : 2 ≤ R.frames ∧ 46 ≤ R.locals) (hK : va_K D vwCl (tyw cI cJ cZ) s) (hD : ∀ σ, va_D (aC ad) (wC ad cI cJ cZ σ)) (σ : SS) (t0 : Int32) (hf : p_X3_faultsOfMade_93 σ t0 = some res) (H : Heap) (locs : List Loc) (ls : Array Slot) (hP : va_P D vwCl (wC ad cI cJ cZ σ) H) (hS : va_S (aC ad) s.heap H locs) (hl : lv_has ls 6 []) : W p l e R s m args below meth c H locs 0 0 (MQ below (va_Qi (fun (r : Int32) (u : SS) => r = res ∧ u = σ) (fun u t => va_P D vwCl (wC ad cI cJ cZ u) t.heap) (aC ad)) args s 0 0 (aC ad)) (F0 m 93 ls [.int t0]) := by
  obtain ⟨hx, hb, hr, hml, hown, hts, hlk⟩ := id hm
  unfold p_X3_faultsOfMade_93 at hf
  exact rt_i (wd := wC ad cI cJ cZ) hx hb hr hlk ⟨Option.some.inj hf, rfl⟩ hP hS dX3_faultsOfMade_93
def p_X3_faultsOfMade_82 (σ : SS) (v4 : Int32) : Option (Int32) := p_X3_faultsOfMade_93 σ (if 1 < v4 then 1 else v4)
set_option maxHeartbeats 4000000 in
set_option maxRecDepth 100000 in
theorem w_X3_faultsOfMade_82 {p : Program} {l : Launch} {e : Env} {R : Room} {s : State} {m : MethodId} {args : Array Value} {below : List Frame} {meth : Method} {c : Code} {D : va_G} {ad : Nat → Nat} {cI cJ cZ : ClassId} {res : Int32} (hm : mx p s m args meth c cX3_faultsOfMade 6 (some .int) wsX3_faultsOfMade RX3) (hR : 2 ≤ R.frames ∧ 46 ≤ R.locals) (hK : va_K D vwCl (tyw cI cJ cZ) s) (hD : ∀ σ, va_D (aC ad) (wC ad cI cJ cZ σ)) (σ : SS) (v4 : Int32) (hf : p_X3_faultsOfMade_82 σ v4 = some res) (H : Heap) (locs : List Loc) (ls : Array Slot) (hP : va_P D vwCl (wC ad cI cJ cZ σ) H) (hS : va_S (aC ad) s.heap H locs) (hl : lv_has ls 6 [(4, .int v4)]) : W p l e R s m args below meth c H locs 0 0 (MQ below (va_Qi (fun (r : Int32) (u : SS) => r = res ∧ u = σ) (fun u t => va_P D vwCl (wC ad cI cJ cZ u) t.heap) (aC ad)) args s 0 0 (aC ad)) (F0 m 82 ls []) := by
  obtain ⟨hx, hb, hr, hml, hown, hts, hlk⟩ := id hm
  unfold p_X3_faultsOfMade_82 at hf
  refine lv_iload hx hb dX3_faultsOfMade_82 (lv_at hl 0 rfl) ?_
  refine lv_iconst (v := 1) hx hb dX3_faultsOfMade_84 (by decide) ?_
  refine va_mmin hx hb (hml.trans hl.1.symm) hown (hts (.methodLink RX3 197 Lib.Math.min.name) (List.mem_of_getElem? (i := 4) rfl)) (hts (.static Lib.Math.min.name) (List.mem_of_getElem? (i := 5) rfl)) (hts (.initialized "java/lang/Math") (List.mem_of_getElem? (i := 6) rfl)) (hts (.code Lib.Math.min.name Lib.Math.min.code 2 (some .int)) (List.mem_of_getElem? (i := 7) rfl)) (Nat.le_trans (Nat.le_of_ble_eq_true rfl) hR.1) (Nat.le_trans (Nat.le_of_ble_eq_true rfl) hR.2) (Nat.zero_le _) (Nat.zero_le _) dX3_faultsOfMade_85 ?_
  refine lv_goto (tgt := 93) hx hb dX3_faultsOfMade_88 (by decide) ?_
  exact w_X3_faultsOfMade_93 hm hR hK hD σ (if 1 < v4 then 1 else v4) hf _ _ _ hP hS (lv_sub hl [] rfl)
def p_X3_faultsOfMade_6 (σ : SS) : Nat → Int32 → Int32 → Int32 → Int32 → Int32 → Option (Int32)
  | 0, _, _, _, _, _ => none
  | n + 1, v1, v2, v3, v4, v5 => let k6 := p_X3_faultsOfMade_6 σ n; oc (p_X6_size_0 σ) (fun r_12 => if r_12 ≤ v5 then if v3 = (-2) then p_X3_faultsOfMade_82 σ v4 else if v3 = (-3) then p_X3_faultsOfMade_82 σ v4 else p_X3_faultsOfMade_93 σ v4 else oc (p_X0_has_0 (σ.2 5 10) v5) (fun r_24 => if r_24 = 0 then p_X3_faultsOfMade_64 σ k6 v1 v2 v3 v4 v5 else oc (p_X6_isUnder_0 σ v5 v1) (fun r_37 => if r_37 = 0 then p_X3_faultsOfMade_64 σ k6 v1 v2 v3 v4 v5 else oc (p_X1_choose_0 σ v5 v1 v2) (fun r_54 => if r_54 = v3 then p_X3_faultsOfMade_64 σ k6 v1 v2 v3 (v4 + 1) v5 else p_X3_faultsOfMade_64 σ k6 v1 v2 v3 v4 v5))))
set_option maxHeartbeats 4000000 in
set_option maxRecDepth 100000 in
theorem w_X3_faultsOfMade_6 {p : Program} {l : Launch} {e : Env} {R : Room} {s : State} {m : MethodId} {args : Array Value} {below : List Frame} {meth : Method} {c : Code} {D : va_G} {ad : Nat → Nat} {cI cJ cZ : ClassId} {res : Int32} (hm : mx p s m args meth c cX3_faultsOfMade 6 (some .int) wsX3_faultsOfMade RX3) (hR : 2 ≤ R.frames ∧ 46 ≤ R.locals) (hK : va_K D vwCl (tyw cI cJ cZ) s) (hD : ∀ σ, va_D (aC ad) (wC ad cI cJ cZ σ)) (σ : SS) : ∀ (n : Nat) (v1 : Int32) (v2 : Int32) (v3 : Int32) (v4 : Int32) (v5 : Int32), p_X3_faultsOfMade_6 σ n v1 v2 v3 v4 v5 = some res → ∀ (H : Heap) (locs : List Loc) (ls : Array Slot), va_P D vwCl (wC ad cI cJ cZ σ) H → va_S (aC ad) s.heap H locs → lv_has ls 6 [(0, .ref (ad 5)), (1, .int v1), (2, .int v2), (3, .int v3), (4, .int v4), (5, .int v5)] → W p l e R s m args below meth c H locs 0 0 (MQ below (va_Qi (fun (r : Int32) (u : SS) => r = res ∧ u = σ) (fun u t => va_P D vwCl (wC ad cI cJ cZ u) t.heap) (aC ad)) args s 0 0 (aC ad)) (F0 m 6 ls []) := by
  obtain ⟨hx, hb, hr, hml, hown, hts, hlk⟩ := id hm
  intro n
  induction n with
  | zero =>
    intro _ _ _ _ _ hf
    cases hf
  | succ n hk6 =>
    intro v1 v2 v3 v4 v5 hf H locs ls hP hS hl
    rw [p_X3_faultsOfMade_6] at hf
    try dsimp only at hf
    refine lv_iload hx hb dX3_faultsOfMade_6 (lv_at hl 5 rfl) ?_
    refine lv_aload_n hx hb dX3_faultsOfMade_8 rfl (lv_at hl 0 rfl) ?_
    refine va_get (D := D) (ci := 2) (v := .ref (ad 1)) (C := RX3) (T := TX3) (N := 13) hx hb hts in_X3_faultsOfMade_X3 hown hK hP 5 (wC_5 _ _ _ _ _) rfl 0 (by decide) (hts (.fieldLink RX3 27 "CallGraphs$Graph" "types" "LCallGraphs$Types;") (List.mem_of_getElem? (i := 1) rfl)) (fun _ h9 => h9) (fC_5_0 _ _) dX3_faultsOfMade_9 ?_
    obtain ⟨r_12, hg_12, hf⟩ := oc_e hf
    refine mV_ri (wd := wC ad cI cJ cZ) (σ := σ) (As := []) (rest := [.int v5]) ⟨hx, hb, hml, hown, hts⟩ hK hP hD hS (c_X6_size l D ad cI cJ cZ σ hg_12) (cwV 0 hts gX3_faultsOfMade_X6_size rfl rfl rfl hd_X6_size ⟨Nat.le_trans (Nat.le_of_ble_eq_true rfl) hR.1, Nat.le_trans (Nat.le_of_ble_eq_true rfl) hR.2⟩) rfl (wC_1 _ _ _ _ _) rfl hl.1 rfl (Nat.le_of_ble_eq_true rfl) dX3_faultsOfMade_12 (fun H locs hP hS => ?_)
    refine lv_icmp_ge (tgt := 70) hx hb dX3_faultsOfMade_15 (by decide) (fun c_15 => ?_) (fun c_15 => ?_)
    · rw [if_pos c_15] at hf
      refine lv_iload_n hx hb dX3_faultsOfMade_70 rfl (lv_at hl 3 rfl) ?_
      refine lv_bipush (v := (-2)) hx hb dX3_faultsOfMade_71 (by decide) ?_
      refine lv_icmp_eq (tgt := 82) hx hb dX3_faultsOfMade_73 (by decide) (fun c_73 => ?_) (fun c_73 => ?_)
      · rw [if_pos c_73] at hf
        exact w_X3_faultsOfMade_82 hm hR hK hD σ v4 hf _ _ _ hP hS (lv_sub hl [4] rfl)
      · rw [if_neg c_73] at hf
        refine lv_iload_n hx hb dX3_faultsOfMade_76 rfl (lv_at hl 3 rfl) ?_
        refine lv_bipush (v := (-3)) hx hb dX3_faultsOfMade_77 (by decide) ?_
        refine lv_icmp_ne (tgt := 91) hx hb dX3_faultsOfMade_79 (by decide) (fun c_79 => ?_) (fun c_79 => ?_)
        · rw [if_neg c_79] at hf
          refine lv_iload hx hb dX3_faultsOfMade_91 (lv_at hl 4 rfl) ?_
          exact w_X3_faultsOfMade_93 hm hR hK hD σ v4 hf _ _ _ hP hS (lv_sub hl [] rfl)
        · rw [if_pos c_79] at hf
          exact w_X3_faultsOfMade_82 hm hR hK hD σ v4 hf _ _ _ hP hS (lv_sub hl [4] rfl)
    · rw [if_neg c_15] at hf
      refine lv_aload_n hx hb dX3_faultsOfMade_18 rfl (lv_at hl 0 rfl) ?_
      refine va_get (D := D) (ci := 2) (v := .long (σ.2 5 10)) (C := RX3) (T := TX3) (N := 13) hx hb hts in_X3_faultsOfMade_X3 hown hK hP 5 (wC_5 _ _ _ _ _) rfl 10 (by decide) (hts (.fieldLink RX3 73 "CallGraphs$Graph" "made" "J") (List.mem_of_getElem? (i := 2) rfl)) (fun _ h9 => h9) (fC_5_10 _ _) dX3_faultsOfMade_19 ?_
      refine lv_iload hx hb dX3_faultsOfMade_22 (lv_at hl 5 rfl) ?_
      obtain ⟨r_24, hg_24, hf⟩ := oc_e hf
      refine mS_i (D := D) (As := [.long (σ.2 5 10), .int v5]) (rest := []) ⟨hx, hb, hml, hown, hts⟩ hP hS (c_X0_has l (σ.2 5 10) v5 hg_24) (va_cwS 2 hts gX3_faultsOfMade_X0_has rfl rfl rfl hd_X0_has ⟨Nat.le_trans (Nat.le_of_ble_eq_true rfl) hR.1, Nat.le_trans (Nat.le_of_ble_eq_true rfl) hR.2⟩) rfl hl.1 rfl (Nat.le_of_ble_eq_true rfl) dX3_faultsOfMade_24 (fun H locs hP hS => ?_)
      refine lv_if_eq (tgt := 64) hx hb dX3_faultsOfMade_27 (by decide) (fun c_27 => ?_) (fun c_27 => ?_)
      · rw [if_pos c_27] at hf
        exact w_X3_faultsOfMade_64 hm hR hK hD σ (p_X3_faultsOfMade_6 σ n) hk6 v1 v2 v3 v4 v5 hf _ _ _ hP hS (lv_sub hl [0, 1, 2, 3, 4, 5] rfl)
      · rw [if_neg c_27] at hf
        refine lv_aload_n hx hb dX3_faultsOfMade_30 rfl (lv_at hl 0 rfl) ?_
        refine va_get (D := D) (ci := 2) (v := .ref (ad 1)) (C := RX3) (T := TX3) (N := 13) hx hb hts in_X3_faultsOfMade_X3 hown hK hP 5 (wC_5 _ _ _ _ _) rfl 0 (by decide) (hts (.fieldLink RX3 27 "CallGraphs$Graph" "types" "LCallGraphs$Types;") (List.mem_of_getElem? (i := 1) rfl)) (fun _ h9 => h9) (fC_5_0 _ _) dX3_faultsOfMade_31 ?_
        refine lv_iload hx hb dX3_faultsOfMade_34 (lv_at hl 5 rfl) ?_
        refine lv_iload_n hx hb dX3_faultsOfMade_36 rfl (lv_at hl 1 rfl) ?_
        obtain ⟨r_37, hg_37, hf⟩ := oc_e hf
        refine mV_ri (wd := wC ad cI cJ cZ) (σ := σ) (As := [.int v5, .int v1]) (rest := []) ⟨hx, hb, hml, hown, hts⟩ hK hP hD hS (c_X6_isUnder l D ad cI cJ cZ σ v5 v1 hg_37) (cwV 2 hts gX3_faultsOfMade_X6_isUnder rfl rfl rfl hd_X6_isUnder ⟨Nat.le_trans (Nat.le_of_ble_eq_true rfl) hR.1, Nat.le_trans (Nat.le_of_ble_eq_true rfl) hR.2⟩) rfl (wC_1 _ _ _ _ _) rfl hl.1 rfl (Nat.le_of_ble_eq_true rfl) dX3_faultsOfMade_37 (fun H locs hP hS => ?_)
        refine lv_if_ne (tgt := 46) hx hb dX3_faultsOfMade_40 (by decide) (fun c_40 => ?_) (fun c_40 => ?_)
        · rw [if_neg c_40] at hf
          refine lv_aload_n hx hb dX3_faultsOfMade_46 rfl (lv_at hl 0 rfl) ?_
          refine va_get (D := D) (ci := 2) (v := .ref (ad 3)) (C := RX3) (T := TX3) (N := 13) hx hb hts in_X3_faultsOfMade_X3 hown hK hP 5 (wC_5 _ _ _ _ _) rfl 2 (by decide) (hts (.fieldLink RX3 35 "CallGraphs$Graph" "choices" "LCallGraphs$Choices;") (List.mem_of_getElem? (i := 3) rfl)) (fun _ h9 => h9) (fC_5_2 _ _) dX3_faultsOfMade_47 ?_
          refine lv_iload hx hb dX3_faultsOfMade_50 (lv_at hl 5 rfl) ?_
          refine lv_iload_n hx hb dX3_faultsOfMade_52 rfl (lv_at hl 1 rfl) ?_
          refine lv_iload_n hx hb dX3_faultsOfMade_53 rfl (lv_at hl 2 rfl) ?_
          obtain ⟨r_54, hg_54, hf⟩ := oc_e hf
          refine mV_ri (wd := wC ad cI cJ cZ) (σ := σ) (As := [.int v5, .int v1, .int v2]) (rest := []) ⟨hx, hb, hml, hown, hts⟩ hK hP hD hS (c_X1_choose l D ad cI cJ cZ σ v5 v1 v2 hg_54) (cwV 3 hts gX3_faultsOfMade_X1_choose rfl rfl rfl hd_X1_choose ⟨Nat.le_trans (Nat.le_of_ble_eq_true rfl) hR.1, Nat.le_trans (Nat.le_of_ble_eq_true rfl) hR.2⟩) rfl (wC_3 _ _ _ _ _) rfl hl.1 rfl (Nat.le_of_ble_eq_true rfl) dX3_faultsOfMade_54 (fun H locs hP hS => ?_)
          refine lv_iload_n hx hb dX3_faultsOfMade_57 rfl (lv_at hl 3 rfl) ?_
          refine lv_icmp_ne (tgt := 64) hx hb dX3_faultsOfMade_58 (by decide) (fun c_58 => ?_) (fun c_58 => ?_)
          · rw [if_neg c_58] at hf
            exact w_X3_faultsOfMade_64 hm hR hK hD σ (p_X3_faultsOfMade_6 σ n) hk6 v1 v2 v3 v4 v5 hf _ _ _ hP hS (lv_sub hl [0, 1, 2, 3, 4, 5] rfl)
          · rw [if_pos c_58] at hf
            refine lv_iinc (v := (v4 + 1)) (lv' := [(4, .int (v4 + 1)), (0, .ref (ad 5)), (1, .int v1), (2, .int v2), (3, .int v3), (5, .int v5)]) hx hb dX3_faultsOfMade_61 hl (k := 4) rfl rfl (by decide) rfl (fun ls hl => ?_)
            exact w_X3_faultsOfMade_64 hm hR hK hD σ (p_X3_faultsOfMade_6 σ n) hk6 v1 v2 v3 (v4 + 1) v5 hf _ _ _ hP hS (lv_sub hl [1, 2, 3, 4, 0, 5] rfl)
        · rw [if_pos c_40] at hf
          refine lv_goto (tgt := 64) hx hb dX3_faultsOfMade_43 (by decide) ?_
          exact w_X3_faultsOfMade_64 hm hR hK hD σ (p_X3_faultsOfMade_6 σ n) hk6 v1 v2 v3 v4 v5 hf _ _ _ hP hS (lv_sub hl [0, 1, 2, 3, 4, 5] rfl)
def p_X3_faultsOfMade_0 (σ : SS) (v1 : Int32) (v2 : Int32) (v3 : Int32) : Option (Int32) := p_X3_faultsOfMade_6 σ 100000 v1 v2 v3 0 0
set_option maxHeartbeats 4000000 in
set_option maxRecDepth 100000 in
theorem w_X3_faultsOfMade_0 {p : Program} {l : Launch} {e : Env} {R : Room} {s : State} {m : MethodId} {args : Array Value} {below : List Frame} {meth : Method} {c : Code} {D : va_G} {ad : Nat → Nat} {cI cJ cZ : ClassId} {res : Int32} (hm : mx p s m args meth c cX3_faultsOfMade 6 (some .int) wsX3_faultsOfMade RX3) (hR : 2 ≤ R.frames ∧ 46 ≤ R.locals) (hK : va_K D vwCl (tyw cI cJ cZ) s) (hD : ∀ σ, va_D (aC ad) (wC ad cI cJ cZ σ)) (σ : SS) (v1 : Int32) (v2 : Int32) (v3 : Int32) (hf : p_X3_faultsOfMade_0 σ v1 v2 v3 = some res) (H : Heap) (locs : List Loc) (ls : Array Slot) (hP : va_P D vwCl (wC ad cI cJ cZ σ) H) (hS : va_S (aC ad) s.heap H locs) (hl : lv_has ls 6 [(0, .ref (ad 5)), (1, .int v1), (2, .int v2), (3, .int v3)]) : W p l e R s m args below meth c H locs 0 0 (MQ below (va_Qi (fun (r : Int32) (u : SS) => r = res ∧ u = σ) (fun u t => va_P D vwCl (wC ad cI cJ cZ u) t.heap) (aC ad)) args s 0 0 (aC ad)) (F0 m 0 ls []) := by
  obtain ⟨hx, hb, hr, hml, hown, hts, hlk⟩ := id hm
  unfold p_X3_faultsOfMade_0 at hf
  refine lv_iconst (v := 0) hx hb dX3_faultsOfMade_0 (by decide) ?_
  refine lv_istore (lv' := [(4, .int 0), (0, .ref (ad 5)), (1, .int v1), (2, .int v2), (3, .int v3)]) hx hb dX3_faultsOfMade_1 hl (by decide) rfl (fun ls hl => ?_)
  refine lv_iconst (v := 0) hx hb dX3_faultsOfMade_3 (by decide) ?_
  refine lv_istore (lv' := [(5, .int 0), (4, .int 0), (0, .ref (ad 5)), (1, .int v1), (2, .int v2), (3, .int v3)]) hx hb dX3_faultsOfMade_4 hl (by decide) rfl (fun ls hl => ?_)
  exact w_X3_faultsOfMade_6 hm hR hK hD σ 100000 v1 v2 v3 0 0 hf _ _ _ hP hS (lv_sub hl [2, 3, 4, 5, 1, 0] rfl)
theorem hd_X3_faultsOfMade : yX3_faultsOfMade.cls = RX3 ∧ yX3_faultsOfMade.cls ≠ "java/lang/invoke/MethodHandle" ∧ yX3_faultsOfMade.cls ≠ "java/lang/invoke/VarHandle" ∧ (parseMethodDescriptor yX3_faultsOfMade.desc).map (fun d => d.parameters.length) = some 3 := by decide +kernel
set_option maxHeartbeats 4000000 in
set_option maxRecDepth 100000 in
theorem c_X3_faultsOfMade (l : Launch) (D : va_G) (ad : Nat → Nat) (cI cJ cZ : ClassId) (σ : SS) (v1 : Int32) (v2 : Int32) (v3 : Int32) {res : Int32} (hf : p_X3_faultsOfMade_0 σ v1 v2 v3 = some res) : Met l yX3_faultsOfMade wsX3_faultsOfMade ({ frames := 2, cells := 0, slots := 0, locals := 46 } : Room) (PW D (tyw cI cJ cZ) (wC ad cI cJ cZ σ) [.ref (ad 5), .int v1, .int v2, .int v3]) (va_Qi (fun (r : Int32) (u : SS) => r = res ∧ u = σ) (fun u t => va_P D vwCl (wC ad cI cJ cZ u) t.heap) (aC ad)) 0 0 (aC ad) := by
  refine Met.ofW (cc := cX3_faultsOfMade) (maxL := 6) (ret := (some .int)) (by decide) rfl ?_
  intro p e s m args below meth c s₁ B hml hv
  obtain ⟨rfl, hP, hK, hD0⟩ := hv
  have hD : ∀ σ, va_D (aC ad) (wC ad cI cJ cZ σ) := fun σ => wd_D hD0 (wC_map _ _ _ _ _) (wC_map _ _ _ _ _)
  have hm : mx p s m _ meth c cX3_faultsOfMade 6 (some .int) wsX3_faultsOfMade RX3 := ⟨B.exec, B.bytes, B.returns, hml, findClass_of_methodNamed B.named, atoms_spec (ws := wsX3_faultsOfMade) B.pre, B.notSynchronized⟩
  have hl := lv_entry ([.ref (ad 5), .int v1, .int v2, .int v3]) (n := 6) (Nat.le_of_ble_eq_true rfl)
  rw [lg_entry_eq]
  generalize (lg_sl ([.ref (ad 5), .int v1, .int v2, .int v3]) ++ List.replicate (6 - (lg_sl ([.ref (ad 5), .int v1, .int v2, .int v3])).length) Slot.unset).toArray = ls at hl ⊢
  exact w_X3_faultsOfMade_0 hm ⟨Nat.le_refl _, Nat.le_refl _⟩ hK hD σ v1 v2 v3 hf _ _ _ hP va_S.rf hl
/-! CallGraphs$Graph.faultsOf(II)I -/
theorem in_X3_faultsOf_X3 : ∀ w ∈ u_ws RX3 TX3 13, w ∈ wsX3_faultsOf := fun w h => List.mem_cons_of_mem _ (List.mem_append_left _ (List.mem_append_left _ (List.mem_append_left _ (List.mem_append_left _ (List.mem_append_right _ h)))))
def p_X3_faultsOf_56 (σ : SS) (v2 : Int32) (v3 : Int32) (v4 : Int32) : Option (Int32) := oc (p_X3_faultsOfMade_0 σ v3 v4 v2) (fun r_61 => some r_61)
set_option maxHeartbeats 4000000 in
set_option maxRecDepth 100000 in
theorem w_X3_faultsOf_56 {p : Program} {l : Launch} {e : Env} {R : Room} {s : State} {m : MethodId} {args : Array Value} {below : List Frame} {meth : Method} {c : Code} {D : va_G} {ad : Nat → Nat} {cI cJ cZ : ClassId} {res : Int32} (hm : mx p s m args meth c cX3_faultsOf 5 (some .int) wsX3_faultsOf RX3) (hR : 3 ≤ R.frames ∧ 71 ≤ R.locals) (hK : va_K D vwCl (tyw cI cJ cZ) s) (hD : ∀ σ, va_D (aC ad) (wC ad cI cJ cZ σ)) (σ : SS) (v2 : Int32) (v3 : Int32) (v4 : Int32) (hf : p_X3_faultsOf_56 σ v2 v3 v4 = some res) (H : Heap) (locs : List Loc) (ls : Array Slot) (hP : va_P D vwCl (wC ad cI cJ cZ σ) H) (hS : va_S (aC ad) s.heap H locs) (hl : lv_has ls 5 [(0, .ref (ad 5)), (2, .int v2), (3, .int v3), (4, .int v4)]) : W p l e R s m args below meth c H locs 0 0 (MQ below (va_Qi (fun (r : Int32) (u : SS) => r = res ∧ u = σ) (fun u t => va_P D vwCl (wC ad cI cJ cZ u) t.heap) (aC ad)) args s 0 0 (aC ad)) (F0 m 56 ls []) := by
  obtain ⟨hx, hb, hr, hml, hown, hts, hlk⟩ := id hm
  unfold p_X3_faultsOf_56 at hf
  refine lv_aload_n hx hb dX3_faultsOf_56 rfl (lv_at hl 0 rfl) ?_
  refine lv_iload_n hx hb dX3_faultsOf_57 rfl (lv_at hl 2 rfl) ?_
  refine lv_iload hx hb dX3_faultsOf_58 (lv_at hl 3 rfl) ?_
  refine lv_iload_n hx hb dX3_faultsOf_60 rfl (lv_at hl 1 rfl) ?_
  obtain ⟨r_61, hg_61, hf⟩ := oc_e hf
  refine mV_ri (wd := wC ad cI cJ cZ) (σ := σ) (As := [.int v3, .int v4, .int v2]) (rest := []) ⟨hx, hb, hml, hown, hts⟩ hK hP hD hS (c_X3_faultsOfMade l D ad cI cJ cZ σ v3 v4 v2 hg_61) (cwV 3 hts gX3_faultsOf_X3_faultsOfMade rfl rfl rfl hd_X3_faultsOfMade ⟨Nat.le_trans (Nat.le_of_ble_eq_true rfl) hR.1, Nat.le_trans (Nat.le_of_ble_eq_true rfl) hR.2⟩) rfl (wC_5 _ _ _ _ _) rfl hl.1 rfl (Nat.le_of_ble_eq_true rfl) dX3_faultsOf_61 (fun H locs hP hS => ?_)
  exact rt_i (wd := wC ad cI cJ cZ) hx hb hr hlk ⟨Option.some.inj hf, rfl⟩ hP hS dX3_faultsOf_64
def p_X3_faultsOf_85 (σ : SS) (t0 : Int32) : Option (Int32) := some t0
set_option maxHeartbeats 4000000 in
set_option maxRecDepth 100000 in
theorem w_X3_faultsOf_85 {p : Program} {l : Launch} {e : Env} {R : Room} {s : State} {m : MethodId} {args : Array Value} {below : List Frame} {meth : Method} {c : Code} {D : va_G} {ad : Nat → Nat} {cI cJ cZ : ClassId} {res : Int32} (hm : mx p s m args meth c cX3_faultsOf 5 (some .int) wsX3_faultsOf RX3) (hR : 3 ≤ R.frames ∧ 71 ≤ R.locals) (hK : va_K D vwCl (tyw cI cJ cZ) s) (hD : ∀ σ, va_D (aC ad) (wC ad cI cJ cZ σ)) (σ : SS) (t0 : Int32) (hf : p_X3_faultsOf_85 σ t0 = some res) (H : Heap) (locs : List Loc) (ls : Array Slot) (hP : va_P D vwCl (wC ad cI cJ cZ σ) H) (hS : va_S (aC ad) s.heap H locs) (hl : lv_has ls 5 []) : W p l e R s m args below meth c H locs 0 0 (MQ below (va_Qi (fun (r : Int32) (u : SS) => r = res ∧ u = σ) (fun u t => va_P D vwCl (wC ad cI cJ cZ u) t.heap) (aC ad)) args s 0 0 (aC ad)) (F0 m 85 ls [.int t0]) := by
  obtain ⟨hx, hb, hr, hml, hown, hts, hlk⟩ := id hm
  unfold p_X3_faultsOf_85 at hf
  exact rt_i (wd := wC ad cI cJ cZ) hx hb hr hlk ⟨Option.some.inj hf, rfl⟩ hP hS dX3_faultsOf_85
def p_X3_faultsOf_105 (σ : SS) (t0 : Int32) : Option (Int32) := some t0
set_option maxHeartbeats 4000000 in
set_option maxRecDepth 100000 in
theorem w_X3_faultsOf_105 {p : Program} {l : Launch} {e : Env} {R : Room} {s : State} {m : MethodId} {args : Array Value} {below : List Frame} {meth : Method} {c : Code} {D : va_G} {ad : Nat → Nat} {cI cJ cZ : ClassId} {res : Int32} (hm : mx p s m args meth c cX3_faultsOf 5 (some .int) wsX3_faultsOf RX3) (hR : 3 ≤ R.frames ∧ 71 ≤ R.locals) (hK : va_K D vwCl (tyw cI cJ cZ) s) (hD : ∀ σ, va_D (aC ad) (wC ad cI cJ cZ σ)) (σ : SS) (t0 : Int32) (hf : p_X3_faultsOf_105 σ t0 = some res) (H : Heap) (locs : List Loc) (ls : Array Slot) (hP : va_P D vwCl (wC ad cI cJ cZ σ) H) (hS : va_S (aC ad) s.heap H locs) (hl : lv_has ls 5 []) : W p l e R s m args below meth c H locs 0 0 (MQ below (va_Qi (fun (r : Int32) (u : SS) => r = res ∧ u = σ) (fun u t => va_P D vwCl (wC ad cI cJ cZ u) t.heap) (aC ad)) args s 0 0 (aC ad)) (F0 m 105 ls [.int t0]) := by
  obtain ⟨hx, hb, hr, hml, hown, hts, hlk⟩ := id hm
  unfold p_X3_faultsOf_105 at hf
  exact rt_i (wd := wC ad cI cJ cZ) hx hb hr hlk ⟨Option.some.inj hf, rfl⟩ hP hS dX3_faultsOf_105
def p_X3_faultsOf_0 (σ : SS) (v1 : Int32) (v2 : Int32) : Option (Int32) := oc (p_X5_a_0 σ v1) (fun r_5 => oc (p_X5_b_0 σ v1) (fun r_14 => oc (p_X5_kindOf_0 σ v1) (fun r_24 => (if r_24 = 1 then p_X3_faultsOf_56 σ v2 r_5 r_14 else if r_24 = 2 then oc (p_X1_choose_0 σ r_5 r_5 r_14) (fun r_73 => if r_73 = v2 then p_X3_faultsOf_85 σ 1 else p_X3_faultsOf_85 σ 0) else if r_24 = 3 then oc (p_X1_chooseStatic_0 σ r_5 r_14) (fun r_93 => if r_93 = v2 then p_X3_faultsOf_105 σ 1 else p_X3_faultsOf_105 σ 0) else if r_24 = 4 then p_X3_faultsOf_56 σ v2 r_5 r_14 else some 0))))
set_option maxHeartbeats 4000000 in
set_option maxRecDepth 100000 in
theorem w_X3_faultsOf_0 {p : Program} {l : Launch} {e : Env} {R : Room} {s : State} {m : MethodId} {args : Array Value} {below : List Frame} {meth : Method} {c : Code} {D : va_G} {ad : Nat → Nat} {cI cJ cZ : ClassId} {res : Int32} (hm : mx p s m args meth c cX3_faultsOf 5 (some .int) wsX3_faultsOf RX3) (hR : 3 ≤ R.frames ∧ 71 ≤ R.locals) (hK : va_K D vwCl (tyw cI cJ cZ) s) (hD : ∀ σ, va_D (aC ad) (wC ad cI cJ cZ σ)) (σ : SS) (v1 : Int32) (v2 : Int32) (hf : p_X3_faultsOf_0 σ v1 v2 = some res) (H : Heap) (locs : List Loc) (ls : Array Slot) (hP : va_P D vwCl (wC ad cI cJ cZ σ) H) (hS : va_S (aC ad) s.heap H locs) (hl : lv_has ls 5 [(0, .ref (ad 5)), (1, .int v1), (2, .int v2)]) : W p l e R s m args below meth c H locs 0 0 (MQ below (va_Qi (fun (r : Int32) (u : SS) => r = res ∧ u = σ) (fun u t => va_P D vwCl (wC ad cI cJ cZ u) t.heap) (aC ad)) args s 0 0 (aC ad)) (F0 m 0 ls []) := by
  obtain ⟨hx, hb, hr, hml, hown, hts, hlk⟩ := id hm
  unfold p_X3_faultsOf_0 at hf
  refine lv_aload_n hx hb dX3_faultsOf_0 rfl (lv_at hl 0 rfl) ?_
  refine va_get (D := D) (ci := 2) (v := .ref (ad 4)) (C := RX3) (T := TX3) (N := 13) hx hb hts in_X3_faultsOf_X3 hown hK hP 5 (wC_5 _ _ _ _ _) rfl 3 (by decide) (hts (.fieldLink RX3 39 "CallGraphs$Graph" "ops" "LCallGraphs$Ops;") (List.mem_of_getElem? (i := 1) rfl)) (fun _ h9 => h9) (fC_5_3 _ _) dX3_faultsOf_1 ?_
  refine lv_iload_n hx hb dX3_faultsOf_4 rfl (lv_at hl 1 rfl) ?_
  obtain ⟨r_5, hg_5, hf⟩ := oc_e hf
  refine mV_ri (wd := wC ad cI cJ cZ) (σ := σ) (As := [.int v1]) (rest := []) ⟨hx, hb, hml, hown, hts⟩ hK hP hD hS (c_X5_a l D ad cI cJ cZ σ v1 hg_5) (cwV 1 hts gX3_faultsOf_X5_a rfl rfl rfl hd_X5_a ⟨Nat.le_trans (Nat.le_of_ble_eq_true rfl) hR.1, Nat.le_trans (Nat.le_of_ble_eq_true rfl) hR.2⟩) rfl (wC_4 _ _ _ _ _) rfl hl.1 rfl (Nat.le_of_ble_eq_true rfl) dX3_faultsOf_5 (fun H locs hP hS => ?_)
  refine lv_istore_n (lv' := [(3, .int r_5), (0, .ref (ad 5)), (1, .int v1), (2, .int v2)]) hx hb dX3_faultsOf_8 rfl hl (by decide) rfl (fun ls hl => ?_)
  refine lv_aload_n hx hb dX3_faultsOf_9 rfl (lv_at hl 1 rfl) ?_
  refine va_get (D := D) (ci := 2) (v := .ref (ad 4)) (C := RX3) (T := TX3) (N := 13) hx hb hts in_X3_faultsOf_X3 hown hK hP 5 (wC_5 _ _ _ _ _) rfl 3 (by decide) (hts (.fieldLink RX3 39 "CallGraphs$Graph" "ops" "LCallGraphs$Ops;") (List.mem_of_getElem? (i := 1) rfl)) (fun _ h9 => h9) (fC_5_3 _ _) dX3_faultsOf_10 ?_
  refine lv_iload_n hx hb dX3_faultsOf_13 rfl (lv_at hl 2 rfl) ?_
  obtain ⟨r_14, hg_14, hf⟩ := oc_e hf
  refine mV_ri (wd := wC ad cI cJ cZ) (σ := σ) (As := [.int v1]) (rest := []) ⟨hx, hb, hml, hown, hts⟩ hK hP hD hS (c_X5_b l D ad cI cJ cZ σ v1 hg_14) (cwV 1 hts gX3_faultsOf_X5_b rfl rfl rfl hd_X5_b ⟨Nat.le_trans (Nat.le_of_ble_eq_true rfl) hR.1, Nat.le_trans (Nat.le_of_ble_eq_true rfl) hR.2⟩) rfl (wC_4 _ _ _ _ _) rfl hl.1 rfl (Nat.le_of_ble_eq_true rfl) dX3_faultsOf_14 (fun H locs hP hS => ?_)
  refine lv_istore (lv' := [(4, .int r_14), (3, .int r_5), (0, .ref (ad 5)), (1, .int v1), (2, .int v2)]) hx hb dX3_faultsOf_17 hl (by decide) rfl (fun ls hl => ?_)
  refine lv_aload_n hx hb dX3_faultsOf_19 rfl (lv_at hl 2 rfl) ?_
  refine va_get (D := D) (ci := 2) (v := .ref (ad 4)) (C := RX3) (T := TX3) (N := 13) hx hb hts in_X3_faultsOf_X3 hown hK hP 5 (wC_5 _ _ _ _ _) rfl 3 (by decide) (hts (.fieldLink RX3 39 "CallGraphs$Graph" "ops" "LCallGraphs$Ops;") (List.mem_of_getElem? (i := 1) rfl)) (fun _ h9 => h9) (fC_5_3 _ _) dX3_faultsOf_20 ?_
  refine lv_iload_n hx hb dX3_faultsOf_23 rfl (lv_at hl 3 rfl) ?_
  obtain ⟨r_24, hg_24, hf⟩ := oc_e hf
  refine mV_ri (wd := wC ad cI cJ cZ) (σ := σ) (As := [.int v1]) (rest := []) ⟨hx, hb, hml, hown, hts⟩ hK hP hD hS (c_X5_kindOf l D ad cI cJ cZ σ v1 hg_24) (cwV 1 hts gX3_faultsOf_X5_kindOf rfl rfl rfl hd_X5_kindOf ⟨Nat.le_trans (Nat.le_of_ble_eq_true rfl) hR.1, Nat.le_trans (Nat.le_of_ble_eq_true rfl) hR.2⟩) rfl (wC_4 _ _ _ _ _) rfl hl.1 rfl (Nat.le_of_ble_eq_true rfl) dX3_faultsOf_24 (fun H locs hP hS => ?_)
  by_cases c_27_0 : r_24 = 1
  · rw [if_pos c_27_0] at hf
    refine lv_tableIn (off := 29) (tgt := 56) hx hb dX3_faultsOf_27 (by rw [c_27_0]; decide) (by rw [c_27_0]; decide) (by rw [c_27_0]; rfl) (by decide) ?_
    exact w_X3_faultsOf_56 hm hR hK hD σ v2 r_5 r_14 hf _ _ _ hP hS (lv_sub hl [2, 4, 1, 0] rfl)
  rw [if_neg c_27_0] at hf
  by_cases c_27_1 : r_24 = 2
  · rw [if_pos c_27_1] at hf
    refine lv_tableIn (off := 38) (tgt := 65) hx hb dX3_faultsOf_27 (by rw [c_27_1]; decide) (by rw [c_27_1]; decide) (by rw [c_27_1]; rfl) (by decide) ?_
    refine lv_aload_n hx hb dX3_faultsOf_65 rfl (lv_at hl 2 rfl) ?_
    refine va_get (D := D) (ci := 2) (v := .ref (ad 3)) (C := RX3) (T := TX3) (N := 13) hx hb hts in_X3_faultsOf_X3 hown hK hP 5 (wC_5 _ _ _ _ _) rfl 2 (by decide) (hts (.fieldLink RX3 35 "CallGraphs$Graph" "choices" "LCallGraphs$Choices;") (List.mem_of_getElem? (i := 2) rfl)) (fun _ h9 => h9) (fC_5_2 _ _) dX3_faultsOf_66 ?_
    refine lv_iload_n hx hb dX3_faultsOf_69 rfl (lv_at hl 1 rfl) ?_
    refine lv_iload_n hx hb dX3_faultsOf_70 rfl (lv_at hl 1 rfl) ?_
    refine lv_iload hx hb dX3_faultsOf_71 (lv_at hl 0 rfl) ?_
    obtain ⟨r_73, hg_73, hf⟩ := oc_e hf
    refine mV_ri (wd := wC ad cI cJ cZ) (σ := σ) (As := [.int r_5, .int r_5, .int r_14]) (rest := []) ⟨hx, hb, hml, hown, hts⟩ hK hP hD hS (c_X1_choose l D ad cI cJ cZ σ r_5 r_5 r_14 hg_73) (cwV 3 hts gX3_faultsOf_X1_choose rfl rfl rfl hd_X1_choose ⟨Nat.le_trans (Nat.le_of_ble_eq_true rfl) hR.1, Nat.le_trans (Nat.le_of_ble_eq_true rfl) hR.2⟩) rfl (wC_3 _ _ _ _ _) rfl hl.1 rfl (Nat.le_of_ble_eq_true rfl) dX3_faultsOf_73 (fun H locs hP hS => ?_)
    refine lv_iload_n hx hb dX3_faultsOf_76 rfl (lv_at hl 4 rfl) ?_
    refine lv_icmp_ne (tgt := 84) hx hb dX3_faultsOf_77 (by decide) (fun c_77 => ?_) (fun c_77 => ?_)
    · rw [if_neg c_77] at hf
      refine lv_iconst (v := 0) hx hb dX3_faultsOf_84 (by decide) ?_
      exact w_X3_faultsOf_85 hm hR hK hD σ 0 hf _ _ _ hP hS (lv_sub hl [] rfl)
    · rw [if_pos c_77] at hf
      refine lv_iconst (v := 1) hx hb dX3_faultsOf_80 (by decide) ?_
      refine lv_goto (tgt := 85) hx hb dX3_faultsOf_81 (by decide) ?_
      exact w_X3_faultsOf_85 hm hR hK hD σ 1 hf _ _ _ hP hS (lv_sub hl [] rfl)
  rw [if_neg c_27_1] at hf
  by_cases c_27_2 : r_24 = 3
  · rw [if_pos c_27_2] at hf
    refine lv_tableIn (off := 59) (tgt := 86) hx hb dX3_faultsOf_27 (by rw [c_27_2]; decide) (by rw [c_27_2]; decide) (by rw [c_27_2]; rfl) (by decide) ?_
    refine lv_aload_n hx hb dX3_faultsOf_86 rfl (lv_at hl 2 rfl) ?_
    refine va_get (D := D) (ci := 2) (v := .ref (ad 3)) (C := RX3) (T := TX3) (N := 13) hx hb hts in_X3_faultsOf_X3 hown hK hP 5 (wC_5 _ _ _ _ _) rfl 2 (by decide) (hts (.fieldLink RX3 35 "CallGraphs$Graph" "choices" "LCallGraphs$Choices;") (List.mem_of_getElem? (i := 2) rfl)) (fun _ h9 => h9) (fC_5_2 _ _) dX3_faultsOf_87 ?_
    refine lv_iload_n hx hb dX3_faultsOf_90 rfl (lv_at hl 1 rfl) ?_
    refine lv_iload hx hb dX3_faultsOf_91 (lv_at hl 0 rfl) ?_
    obtain ⟨r_93, hg_93, hf⟩ := oc_e hf
    refine mV_ri (wd := wC ad cI cJ cZ) (σ := σ) (As := [.int r_5, .int r_14]) (rest := []) ⟨hx, hb, hml, hown, hts⟩ hK hP hD hS (c_X1_chooseStatic l D ad cI cJ cZ σ r_5 r_14 hg_93) (cwV 2 hts gX3_faultsOf_X1_chooseStatic rfl rfl rfl hd_X1_chooseStatic ⟨Nat.le_trans (Nat.le_of_ble_eq_true rfl) hR.1, Nat.le_trans (Nat.le_of_ble_eq_true rfl) hR.2⟩) rfl (wC_3 _ _ _ _ _) rfl hl.1 rfl (Nat.le_of_ble_eq_true rfl) dX3_faultsOf_93 (fun H locs hP hS => ?_)
    refine lv_iload_n hx hb dX3_faultsOf_96 rfl (lv_at hl 4 rfl) ?_
    refine lv_icmp_ne (tgt := 104) hx hb dX3_faultsOf_97 (by decide) (fun c_97 => ?_) (fun c_97 => ?_)
    · rw [if_neg c_97] at hf
      refine lv_iconst (v := 0) hx hb dX3_faultsOf_104 (by decide) ?_
      exact w_X3_faultsOf_105 hm hR hK hD σ 0 hf _ _ _ hP hS (lv_sub hl [] rfl)
    · rw [if_pos c_97] at hf
      refine lv_iconst (v := 1) hx hb dX3_faultsOf_100 (by decide) ?_
      refine lv_goto (tgt := 105) hx hb dX3_faultsOf_101 (by decide) ?_
      exact w_X3_faultsOf_105 hm hR hK hD σ 1 hf _ _ _ hP hS (lv_sub hl [] rfl)
  rw [if_neg c_27_2] at hf
  by_cases c_27_3 : r_24 = 4
  · rw [if_pos c_27_3] at hf
    refine lv_tableIn (off := 29) (tgt := 56) hx hb dX3_faultsOf_27 (by rw [c_27_3]; decide) (by rw [c_27_3]; decide) (by rw [c_27_3]; rfl) (by decide) ?_
    exact w_X3_faultsOf_56 hm hR hK hD σ v2 r_5 r_14 hf _ _ _ hP hS (lv_sub hl [2, 4, 1, 0] rfl)
  rw [if_neg c_27_3] at hf
  refine lv_tableOut (tgt := 106) hx hb dX3_faultsOf_27 (by have g0 := lv_neT c_27_0 (a := 1) (by decide); have g1 := lv_neT c_27_1 (a := 2) (by decide); have g2 := lv_neT c_27_2 (a := 3) (by decide); have g3 := lv_neT c_27_3 (a := 4) (by decide); omega) (by decide) ?_
  refine lv_iconst (v := 0) hx hb dX3_faultsOf_106 (by decide) ?_
  exact rt_i (wd := wC ad cI cJ cZ) hx hb hr hlk ⟨Option.some.inj hf, rfl⟩ hP hS dX3_faultsOf_107
theorem hd_X3_faultsOf : yX3_faultsOf.cls = RX3 ∧ yX3_faultsOf.cls ≠ "java/lang/invoke/MethodHandle" ∧ yX3_faultsOf.cls ≠ "java/lang/invoke/VarHandle" ∧ (parseMethodDescriptor yX3_faultsOf.desc).map (fun d => d.parameters.length) = some 2 := by decide +kernel
set_option maxHeartbeats 4000000 in
set_option maxRecDepth 100000 in
theorem c_X3_faultsOf (l : Launch) (D : va_G) (ad : Nat → Nat) (cI cJ cZ : ClassId) (σ : SS) (v1 : Int32) (v2 : Int32) {res : Int32} (hf : p_X3_faultsOf_0 σ v1 v2 = some res) : Met l yX3_faultsOf wsX3_faultsOf ({ frames := 3, cells := 0, slots := 0, locals := 71 } : Room) (PW D (tyw cI cJ cZ) (wC ad cI cJ cZ σ) [.ref (ad 5), .int v1, .int v2]) (va_Qi (fun (r : Int32) (u : SS) => r = res ∧ u = σ) (fun u t => va_P D vwCl (wC ad cI cJ cZ u) t.heap) (aC ad)) 0 0 (aC ad) := by
  refine Met.ofW (cc := cX3_faultsOf) (maxL := 5) (ret := (some .int)) (by decide) rfl ?_
  intro p e s m args below meth c s₁ B hml hv
  obtain ⟨rfl, hP, hK, hD0⟩ := hv
  have hD : ∀ σ, va_D (aC ad) (wC ad cI cJ cZ σ) := fun σ => wd_D hD0 (wC_map _ _ _ _ _) (wC_map _ _ _ _ _)
  have hm : mx p s m _ meth c cX3_faultsOf 5 (some .int) wsX3_faultsOf RX3 := ⟨B.exec, B.bytes, B.returns, hml, findClass_of_methodNamed B.named, atoms_spec (ws := wsX3_faultsOf) B.pre, B.notSynchronized⟩
  have hl := lv_entry ([.ref (ad 5), .int v1, .int v2]) (n := 5) (Nat.le_of_ble_eq_true rfl)
  rw [lg_entry_eq]
  generalize (lg_sl ([.ref (ad 5), .int v1, .int v2]) ++ List.replicate (5 - (lg_sl ([.ref (ad 5), .int v1, .int v2])).length) Slot.unset).toArray = ls at hl ⊢
  exact w_X3_faultsOf_0 hm ⟨Nat.le_refl _, Nat.le_refl _⟩ hK hD σ v1 v2 hf _ _ _ hP va_S.rf hl
/-! CallGraphs$Graph.allFaultsOf(I)I -/

def p_X3_allFaultsOf_5 (σ : SS) : Nat → Int32 → Int32 → Int32 → Option (Int32)
  | 0, _, _, _ => none
  | n + 1, v1, v2, v3 => let k5 := p_X3_allFaultsOf_5 σ n; if (-2) < v3 then some v2 else oc (p_X3_faultsOf_0 σ v1 v3) (fun r_15 => k5 v1 (v2 + r_15) (v3 + 1))
set_option maxHeartbeats 4000000 in
set_option maxRecDepth 100000 in
theorem w_X3_allFaultsOf_5 {p : Program} {l : Launch} {e : Env} {R : Room} {s : State} {m : MethodId} {args : Array Value} {below : List Frame} {meth : Method} {c : Code} {D : va_G} {ad : Nat → Nat} {cI cJ cZ : ClassId} {res : Int32} (hm : mx p s m args meth c cX3_allFaultsOf 4 (some .int) wsX3_allFaultsOf RX3) (hR : 4 ≤ R.frames ∧ 95 ≤ R.locals) (hK : va_K D vwCl (tyw cI cJ cZ) s) (hD : ∀ σ, va_D (aC ad) (wC ad cI cJ cZ σ)) (σ : SS) : ∀ (n : Nat) (v1 : Int32) (v2 : Int32) (v3 : Int32), p_X3_allFaultsOf_5 σ n v1 v2 v3 = some res → ∀ (H : Heap) (locs : List Loc) (ls : Array Slot), va_P D vwCl (wC ad cI cJ cZ σ) H → va_S (aC ad) s.heap H locs → lv_has ls 4 [(0, .ref (ad 5)), (1, .int v1), (2, .int v2), (3, .int v3)] → W p l e R s m args below meth c H locs 0 0 (MQ below (va_Qi (fun (r : Int32) (u : SS) => r = res ∧ u = σ) (fun u t => va_P D vwCl (wC ad cI cJ cZ u) t.heap) (aC ad)) args s 0 0 (aC ad)) (F0 m 5 ls []) := by
  obtain ⟨hx, hb, hr, hml, hown, hts, hlk⟩ := id hm
  intro n
  induction n with
  | zero =>
    intro _ _ _ hf
    cases hf
  | succ n hk5 =>
    intro v1 v2 v3 hf H locs ls hP hS hl
    rw [p_X3_allFaultsOf_5] at hf
    try dsimp only at hf
    refine lv_iload_n hx hb dX3_allFaultsOf_5 rfl (lv_at hl 3 rfl) ?_
    refine lv_bipush (v := (-2)) hx hb dX3_allFaultsOf_6 (by decide) ?_
    refine lv_icmp_gt (tgt := 26) hx hb dX3_allFaultsOf_8 (by decide) (fun c_8 => ?_) (fun c_8 => ?_)
    · rw [if_pos c_8] at hf
      refine lv_iload_n hx hb dX3_allFaultsOf_26 rfl (lv_at hl 2 rfl) ?_
      exact rt_i (wd := wC ad cI cJ cZ) hx hb hr hlk ⟨Option.some.inj hf, rfl⟩ hP hS dX3_allFaultsOf_27
    · rw [if_neg c_8] at hf
      refine lv_iload_n hx hb dX3_allFaultsOf_11 rfl (lv_at hl 2 rfl) ?_
      refine lv_aload_n hx hb dX3_allFaultsOf_12 rfl (lv_at hl 0 rfl) ?_
      refine lv_iload_n hx hb dX3_allFaultsOf_13 rfl (lv_at hl 1 rfl) ?_
      refine lv_iload_n hx hb dX3_allFaultsOf_14 rfl (lv_at hl 3 rfl) ?_
      obtain ⟨r_15, hg_15, hf⟩ := oc_e hf
      refine mV_ri (wd := wC ad cI cJ cZ) (σ := σ) (As := [.int v1, .int v3]) (rest := [.int v2]) ⟨hx, hb, hml, hown, hts⟩ hK hP hD hS (c_X3_faultsOf l D ad cI cJ cZ σ v1 v3 hg_15) (cwV 2 hts gX3_allFaultsOf_X3_faultsOf rfl rfl rfl hd_X3_faultsOf ⟨Nat.le_trans (Nat.le_of_ble_eq_true rfl) hR.1, Nat.le_trans (Nat.le_of_ble_eq_true rfl) hR.2⟩) rfl (wC_5 _ _ _ _ _) rfl hl.1 rfl (Nat.le_of_ble_eq_true rfl) dX3_allFaultsOf_15 (fun H locs hP hS => ?_)
      refine lv_iadd hx hb dX3_allFaultsOf_18 ?_
      refine lv_istore_n (lv' := [(2, .int (v2 + r_15)), (0, .ref (ad 5)), (1, .int v1), (3, .int v3)]) hx hb dX3_allFaultsOf_19 rfl hl (by decide) rfl (fun ls hl => ?_)
      refine lv_iinc (v := (v3 + 1)) (lv' := [(3, .int (v3 + 1)), (2, .int (v2 + r_15)), (0, .ref (ad 5)), (1, .int v1)]) hx hb dX3_allFaultsOf_20 hl (k := 3) rfl rfl (by decide) rfl (fun ls hl => ?_)
      refine lv_goto (tgt := 5) hx hb dX3_allFaultsOf_23 (by decide) ?_
      exact hk5 v1 (v2 + r_15) (v3 + 1) hf _ _ _ hP hS (lv_sub hl [2, 3, 1, 0] rfl)
def p_X3_allFaultsOf_0 (σ : SS) (v1 : Int32) : Option (Int32) := p_X3_allFaultsOf_5 σ 100000 v1 0 (-5)
set_option maxHeartbeats 4000000 in
set_option maxRecDepth 100000 in
theorem w_X3_allFaultsOf_0 {p : Program} {l : Launch} {e : Env} {R : Room} {s : State} {m : MethodId} {args : Array Value} {below : List Frame} {meth : Method} {c : Code} {D : va_G} {ad : Nat → Nat} {cI cJ cZ : ClassId} {res : Int32} (hm : mx p s m args meth c cX3_allFaultsOf 4 (some .int) wsX3_allFaultsOf RX3) (hR : 4 ≤ R.frames ∧ 95 ≤ R.locals) (hK : va_K D vwCl (tyw cI cJ cZ) s) (hD : ∀ σ, va_D (aC ad) (wC ad cI cJ cZ σ)) (σ : SS) (v1 : Int32) (hf : p_X3_allFaultsOf_0 σ v1 = some res) (H : Heap) (locs : List Loc) (ls : Array Slot) (hP : va_P D vwCl (wC ad cI cJ cZ σ) H) (hS : va_S (aC ad) s.heap H locs) (hl : lv_has ls 4 [(0, .ref (ad 5)), (1, .int v1)]) : W p l e R s m args below meth c H locs 0 0 (MQ below (va_Qi (fun (r : Int32) (u : SS) => r = res ∧ u = σ) (fun u t => va_P D vwCl (wC ad cI cJ cZ u) t.heap) (aC ad)) args s 0 0 (aC ad)) (F0 m 0 ls []) := by
  obtain ⟨hx, hb, hr, hml, hown, hts, hlk⟩ := id hm
  unfold p_X3_allFaultsOf_0 at hf
  refine lv_iconst (v := 0) hx hb dX3_allFaultsOf_0 (by decide) ?_
  refine lv_istore_n (lv' := [(2, .int 0), (0, .ref (ad 5)), (1, .int v1)]) hx hb dX3_allFaultsOf_1 rfl hl (by decide) rfl (fun ls hl => ?_)
  refine lv_bipush (v := (-5)) hx hb dX3_allFaultsOf_2 (by decide) ?_
  refine lv_istore_n (lv' := [(3, .int (-5)), (2, .int 0), (0, .ref (ad 5)), (1, .int v1)]) hx hb dX3_allFaultsOf_4 rfl hl (by decide) rfl (fun ls hl => ?_)
  exact w_X3_allFaultsOf_5 hm hR hK hD σ 100000 v1 0 (-5) hf _ _ _ hP hS (lv_sub hl [2, 3, 1, 0] rfl)
theorem hd_X3_allFaultsOf : yX3_allFaultsOf.cls = RX3 ∧ yX3_allFaultsOf.cls ≠ "java/lang/invoke/MethodHandle" ∧ yX3_allFaultsOf.cls ≠ "java/lang/invoke/VarHandle" ∧ (parseMethodDescriptor yX3_allFaultsOf.desc).map (fun d => d.parameters.length) = some 1 := by decide +kernel
set_option maxHeartbeats 4000000 in
set_option maxRecDepth 100000 in
theorem c_X3_allFaultsOf (l : Launch) (D : va_G) (ad : Nat → Nat) (cI cJ cZ : ClassId) (σ : SS) (v1 : Int32) {res : Int32} (hf : p_X3_allFaultsOf_0 σ v1 = some res) : Met l yX3_allFaultsOf wsX3_allFaultsOf ({ frames := 4, cells := 0, slots := 0, locals := 95 } : Room) (PW D (tyw cI cJ cZ) (wC ad cI cJ cZ σ) [.ref (ad 5), .int v1]) (va_Qi (fun (r : Int32) (u : SS) => r = res ∧ u = σ) (fun u t => va_P D vwCl (wC ad cI cJ cZ u) t.heap) (aC ad)) 0 0 (aC ad) := by
  refine Met.ofW (cc := cX3_allFaultsOf) (maxL := 4) (ret := (some .int)) (by decide) rfl ?_
  intro p e s m args below meth c s₁ B hml hv
  obtain ⟨rfl, hP, hK, hD0⟩ := hv
  have hD : ∀ σ, va_D (aC ad) (wC ad cI cJ cZ σ) := fun σ => wd_D hD0 (wC_map _ _ _ _ _) (wC_map _ _ _ _ _)
  have hm : mx p s m _ meth c cX3_allFaultsOf 4 (some .int) wsX3_allFaultsOf RX3 := ⟨B.exec, B.bytes, B.returns, hml, findClass_of_methodNamed B.named, atoms_spec (ws := wsX3_allFaultsOf) B.pre, B.notSynchronized⟩
  have hl := lv_entry ([.ref (ad 5), .int v1]) (n := 4) (Nat.le_of_ble_eq_true rfl)
  rw [lg_entry_eq]
  generalize (lg_sl ([.ref (ad 5), .int v1]) ++ List.replicate (4 - (lg_sl ([.ref (ad 5), .int v1])).length) Slot.unset).toArray = ls at hl ⊢
  exact w_X3_allFaultsOf_0 hm ⟨Nat.le_refl _, Nat.le_refl _⟩ hK hD σ v1 hf _ _ _ hP va_S.rf hl
/-! CallGraphs$Graph.countFaults()I -/
theorem in_X3_countFaults_X3 : ∀ w ∈ u_ws RX3 TX3 13, w ∈ wsX3_countFaults := fun w h => List.mem_cons_of_mem _ (List.mem_append_left _ (List.mem_append_left _ (List.mem_append_left _ (List.mem_append_left _ (List.mem_append_right _ h)))))
def p_X3_countFaults_65 (σ : SS) (k4 : Int32 → Int32 → Option (Int32)) (v1 : Int32) (v2 : Int32) : Option (Int32) := k4 v1 (v2 + 1)
set_option maxHeartbeats 4000000 in
set_option maxRecDepth 100000 in
theorem w_X3_countFaults_65 {p : Program} {l : Launch} {e : Env} {R : Room} {s : State} {m : MethodId} {args : Array Value} {below : List Frame} {meth : Method} {c : Code} {D : va_G} {ad : Nat → Nat} {cI cJ cZ : ClassId} {res : Int32} (hm : mx p s m args meth c cX3_countFaults 4 (some .int) wsX3_countFaults RX3) (hR : 5 ≤ R.frames ∧ 118 ≤ R.locals) (hK : va_K D vwCl (tyw cI cJ cZ) s) (hD : ∀ σ, va_D (aC ad) (wC ad cI cJ cZ σ)) (σ : SS) (k4 : Int32 → Int32 → Option (Int32)) (hk4 : ∀ (v1 : Int32) (v2 : Int32), k4 v1 v2 = some res → ∀ (H : Heap) (locs : List Loc) (ls : Array Slot), va_P D vwCl (wC ad cI cJ cZ σ) H → va_S (aC ad) s.heap H locs → lv_has ls 4 [(0, .ref (ad 5)), (1, .int v1), (2, .int v2)] → W p l e R s m args below meth c H locs 0 0 (MQ below (va_Qi (fun (r : Int32) (u : SS) => r = res ∧ u = σ) (fun u t => va_P D vwCl (wC ad cI cJ cZ u) t.heap) (aC ad)) args s 0 0 (aC ad)) (F0 m 4 ls [])) (v1 : Int32) (v2 : Int32) (hf : p_X3_countFaults_65 σ k4 v1 v2 = some res) (H : Heap) (locs : List Loc) (ls : Array Slot) (hP : va_P D vwCl (wC ad cI cJ cZ σ) H) (hS : va_S (aC ad) s.heap H locs) (hl : lv_has ls 4 [(0, .ref (ad 5)), (1, .int v1), (2, .int v2)]) : W p l e R s m args below meth c H locs 0 0 (MQ below (va_Qi (fun (r : Int32) (u : SS) => r = res ∧ u = σ) (fun u t => va_P D vwCl (wC ad cI cJ cZ u) t.heap) (aC ad)) args s 0 0 (aC ad)) (F0 m 65 ls []) := by
  obtain ⟨hx, hb, hr, hml, hown, hts, hlk⟩ := id hm
  unfold p_X3_countFaults_65 at hf
  refine lv_iinc (v := (v2 + 1)) (lv' := [(2, .int (v2 + 1)), (0, .ref (ad 5)), (1, .int v1)]) hx hb dX3_countFaults_65 hl (k := 2) rfl rfl (by decide) rfl (fun ls hl => ?_)
  refine lv_goto (tgt := 4) hx hb dX3_countFaults_68 (by decide) ?_
  exact hk4 v1 (v2 + 1) hf _ _ _ hP hS (lv_sub hl [1, 2, 0] rfl)
def p_X3_countFaults_31 (σ : SS) (k4 : Int32 → Int32 → Option (Int32)) : Nat → Int32 → Int32 → Int32 → Option (Int32)
  | 0, _, _, _ => none
  | n + 1, v1, v2, v3 => let k31 := p_X3_countFaults_31 σ k4 n; oc (p_X5_sizeOf_0 σ v2) (fun r_37 => if r_37 ≤ v3 then p_X3_countFaults_65 σ k4 v1 v2 else oc (p_X5_at_0 σ v2 v3) (fun r_51 => oc (p_X3_allFaultsOf_0 σ r_51) (fun r_54 => k31 (v1 + r_54) v2 (v3 + 1))))
set_option maxHeartbeats 4000000 in
set_option maxRecDepth 100000 in
theorem w_X3_countFaults_31 {p : Program} {l : Launch} {e : Env} {R : Room} {s : State} {m : MethodId} {args : Array Value} {below : List Frame} {meth : Method} {c : Code} {D : va_G} {ad : Nat → Nat} {cI cJ cZ : ClassId} {res : Int32} (hm : mx p s m args meth c cX3_countFaults 4 (some .int) wsX3_countFaults RX3) (hR : 5 ≤ R.frames ∧ 118 ≤ R.locals) (hK : va_K D vwCl (tyw cI cJ cZ) s) (hD : ∀ σ, va_D (aC ad) (wC ad cI cJ cZ σ)) (σ : SS) (k4 : Int32 → Int32 → Option (Int32)) (hk4 : ∀ (v1 : Int32) (v2 : Int32), k4 v1 v2 = some res → ∀ (H : Heap) (locs : List Loc) (ls : Array Slot), va_P D vwCl (wC ad cI cJ cZ σ) H → va_S (aC ad) s.heap H locs → lv_has ls 4 [(0, .ref (ad 5)), (1, .int v1), (2, .int v2)] → W p l e R s m args below meth c H locs 0 0 (MQ below (va_Qi (fun (r : Int32) (u : SS) => r = res ∧ u = σ) (fun u t => va_P D vwCl (wC ad cI cJ cZ u) t.heap) (aC ad)) args s 0 0 (aC ad)) (F0 m 4 ls [])) : ∀ (n : Nat) (v1 : Int32) (v2 : Int32) (v3 : Int32), p_X3_countFaults_31 σ k4 n v1 v2 v3 = some res → ∀ (H : Heap) (locs : List Loc) (ls : Array Slot), va_P D vwCl (wC ad cI cJ cZ σ) H → va_S (aC ad) s.heap H locs → lv_has ls 4 [(0, .ref (ad 5)), (1, .int v1), (2, .int v2), (3, .int v3)] → W p l e R s m args below meth c H locs 0 0 (MQ below (va_Qi (fun (r : Int32) (u : SS) => r = res ∧ u = σ) (fun u t => va_P D vwCl (wC ad cI cJ cZ u) t.heap) (aC ad)) args s 0 0 (aC ad)) (F0 m 31 ls []) := by
  obtain ⟨hx, hb, hr, hml, hown, hts, hlk⟩ := id hm
  intro n
  induction n with
  | zero =>
    intro _ _ _ hf
    cases hf
  | succ n hk31 =>
    intro v1 v2 v3 hf H locs ls hP hS hl
    rw [p_X3_countFaults_31] at hf
    try dsimp only at hf
    refine lv_iload_n hx hb dX3_countFaults_31 rfl (lv_at hl 3 rfl) ?_
    refine lv_aload_n hx hb dX3_countFaults_32 rfl (lv_at hl 0 rfl) ?_
    refine va_get (D := D) (ci := 2) (v := .ref (ad 4)) (C := RX3) (T := TX3) (N := 13) hx hb hts in_X3_countFaults_X3 hown hK hP 5 (wC_5 _ _ _ _ _) rfl 3 (by decide) (hts (.fieldLink RX3 39 "CallGraphs$Graph" "ops" "LCallGraphs$Ops;") (List.mem_of_getElem? (i := 3) rfl)) (fun _ h9 => h9) (fC_5_3 _ _) dX3_countFaults_33 ?_
    refine lv_iload_n hx hb dX3_countFaults_36 rfl (lv_at hl 2 rfl) ?_
    obtain ⟨r_37, hg_37, hf⟩ := oc_e hf
    refine mV_ri (wd := wC ad cI cJ cZ) (σ := σ) (As := [.int v2]) (rest := [.int v3]) ⟨hx, hb, hml, hown, hts⟩ hK hP hD hS (c_X5_sizeOf l D ad cI cJ cZ σ v2 hg_37) (cwV 1 hts gX3_countFaults_X5_sizeOf rfl rfl rfl hd_X5_sizeOf ⟨Nat.le_trans (Nat.le_of_ble_eq_true rfl) hR.1, Nat.le_trans (Nat.le_of_ble_eq_true rfl) hR.2⟩) rfl (wC_4 _ _ _ _ _) rfl hl.1 rfl (Nat.le_of_ble_eq_true rfl) dX3_countFaults_37 (fun H locs hP hS => ?_)
    refine lv_icmp_ge (tgt := 65) hx hb dX3_countFaults_40 (by decide) (fun c_40 => ?_) (fun c_40 => ?_)
    · rw [if_pos c_40] at hf
      exact w_X3_countFaults_65 hm hR hK hD σ k4 hk4 v1 v2 hf _ _ _ hP hS (lv_sub hl [0, 1, 2] rfl)
    · rw [if_neg c_40] at hf
      refine lv_iload_n hx hb dX3_countFaults_43 rfl (lv_at hl 1 rfl) ?_
      refine lv_aload_n hx hb dX3_countFaults_44 rfl (lv_at hl 0 rfl) ?_
      refine lv_aload_n hx hb dX3_countFaults_45 rfl (lv_at hl 0 rfl) ?_
      refine va_get (D := D) (ci := 2) (v := .ref (ad 4)) (C := RX3) (T := TX3) (N := 13) hx hb hts in_X3_countFaults_X3 hown hK hP 5 (wC_5 _ _ _ _ _) rfl 3 (by decide) (hts (.fieldLink RX3 39 "CallGraphs$Graph" "ops" "LCallGraphs$Ops;") (List.mem_of_getElem? (i := 3) rfl)) (fun _ h9 => h9) (fC_5_3 _ _) dX3_countFaults_46 ?_
      refine lv_iload_n hx hb dX3_countFaults_49 rfl (lv_at hl 2 rfl) ?_
      refine lv_iload_n hx hb dX3_countFaults_50 rfl (lv_at hl 3 rfl) ?_
      obtain ⟨r_51, hg_51, hf⟩ := oc_e hf
      refine mV_ri (wd := wC ad cI cJ cZ) (σ := σ) (As := [.int v2, .int v3]) (rest := [.ref (ad 5), .int v1]) ⟨hx, hb, hml, hown, hts⟩ hK hP hD hS (c_X5_at l D ad cI cJ cZ σ v2 v3 hg_51) (cwV 2 hts gX3_countFaults_X5_at rfl rfl rfl hd_X5_at ⟨Nat.le_trans (Nat.le_of_ble_eq_true rfl) hR.1, Nat.le_trans (Nat.le_of_ble_eq_true rfl) hR.2⟩) rfl (wC_4 _ _ _ _ _) rfl hl.1 rfl (Nat.le_of_ble_eq_true rfl) dX3_countFaults_51 (fun H locs hP hS => ?_)
      obtain ⟨r_54, hg_54, hf⟩ := oc_e hf
      refine mV_ri (wd := wC ad cI cJ cZ) (σ := σ) (As := [.int r_51]) (rest := [.int v1]) ⟨hx, hb, hml, hown, hts⟩ hK hP hD hS (c_X3_allFaultsOf l D ad cI cJ cZ σ r_51 hg_54) (cwV 1 hts gX3_countFaults_X3_allFaultsOf rfl rfl rfl hd_X3_allFaultsOf ⟨Nat.le_trans (Nat.le_of_ble_eq_true rfl) hR.1, Nat.le_trans (Nat.le_of_ble_eq_true rfl) hR.2⟩) rfl (wC_5 _ _ _ _ _) rfl hl.1 rfl (Nat.le_of_ble_eq_true rfl) dX3_countFaults_54 (fun H locs hP hS => ?_)
      refine lv_iadd hx hb dX3_countFaults_57 ?_
      refine lv_istore_n (lv' := [(1, .int (v1 + r_54)), (0, .ref (ad 5)), (2, .int v2), (3, .int v3)]) hx hb dX3_countFaults_58 rfl hl (by decide) rfl (fun ls hl => ?_)
      refine lv_iinc (v := (v3 + 1)) (lv' := [(3, .int (v3 + 1)), (1, .int (v1 + r_54)), (0, .ref (ad 5)), (2, .int v2)]) hx hb dX3_countFaults_59 hl (k := 3) rfl rfl (by decide) rfl (fun ls hl => ?_)
      refine lv_goto (tgt := 31) hx hb dX3_countFaults_62 (by decide) ?_
      exact hk31 (v1 + r_54) v2 (v3 + 1) hf _ _ _ hP hS (lv_sub hl [2, 1, 3, 0] rfl)
def p_X3_countFaults_4 (σ : SS) : Nat → Int32 → Int32 → Option (Int32)
  | 0, _, _ => none
  | n + 1, v1, v2 => let k4 := p_X3_countFaults_4 σ n; oc (p_X4_size_0 σ) (fun r_9 => if r_9 ≤ v2 then some v1 else oc (p_X0_has_0 (σ.2 5 9) v2) (fun r_20 => if r_20 = 0 then p_X3_countFaults_65 σ k4 v1 v2 else p_X3_countFaults_31 σ k4 100000 v1 v2 0))
set_option maxHeartbeats 4000000 in
set_option maxRecDepth 100000 in
theorem w_X3_countFaults_4 {p : Program} {l : Launch} {e : Env} {R : Room} {s : State} {m : MethodId} {args : Array Value} {below : List Frame} {meth : Method} {c : Code} {D : va_G} {ad : Nat → Nat} {cI cJ cZ : ClassId} {res : Int32} (hm : mx p s m args meth c cX3_countFaults 4 (some .int) wsX3_countFaults RX3) (hR : 5 ≤ R.frames ∧ 118 ≤ R.locals) (hK : va_K D vwCl (tyw cI cJ cZ) s) (hD : ∀ σ, va_D (aC ad) (wC ad cI cJ cZ σ)) (σ : SS) : ∀ (n : Nat) (v1 : Int32) (v2 : Int32), p_X3_countFaults_4 σ n v1 v2 = some res → ∀ (H : Heap) (locs : List Loc) (ls : Array Slot), va_P D vwCl (wC ad cI cJ cZ σ) H → va_S (aC ad) s.heap H locs → lv_has ls 4 [(0, .ref (ad 5)), (1, .int v1), (2, .int v2)] → W p l e R s m args below meth c H locs 0 0 (MQ below (va_Qi (fun (r : Int32) (u : SS) => r = res ∧ u = σ) (fun u t => va_P D vwCl (wC ad cI cJ cZ u) t.heap) (aC ad)) args s 0 0 (aC ad)) (F0 m 4 ls []) := by
  obtain ⟨hx, hb, hr, hml, hown, hts, hlk⟩ := id hm
  intro n
  induction n with
  | zero =>
    intro _ _ hf
    cases hf
  | succ n hk4 =>
    intro v1 v2 hf H locs ls hP hS hl
    rw [p_X3_countFaults_4] at hf
    try dsimp only at hf
    refine lv_iload_n hx hb dX3_countFaults_4 rfl (lv_at hl 2 rfl) ?_
    refine lv_aload_n hx hb dX3_countFaults_5 rfl (lv_at hl 0 rfl) ?_
    refine va_get (D := D) (ci := 2) (v := .ref (ad 2)) (C := RX3) (T := TX3) (N := 13) hx hb hts in_X3_countFaults_X3 hown hK hP 5 (wC_5 _ _ _ _ _) rfl 1 (by decide) (hts (.fieldLink RX3 31 "CallGraphs$Graph" "members" "LCallGraphs$Members;") (List.mem_of_getElem? (i := 1) rfl)) (fun _ h9 => h9) (fC_5_1 _ _) dX3_countFaults_6 ?_
    obtain ⟨r_9, hg_9, hf⟩ := oc_e hf
    refine mV_ri (wd := wC ad cI cJ cZ) (σ := σ) (As := []) (rest := [.int v2]) ⟨hx, hb, hml, hown, hts⟩ hK hP hD hS (c_X4_size l D ad cI cJ cZ σ hg_9) (cwV 0 hts gX3_countFaults_X4_size rfl rfl rfl hd_X4_size ⟨Nat.le_trans (Nat.le_of_ble_eq_true rfl) hR.1, Nat.le_trans (Nat.le_of_ble_eq_true rfl) hR.2⟩) rfl (wC_2 _ _ _ _ _) rfl hl.1 rfl (Nat.le_of_ble_eq_true rfl) dX3_countFaults_9 (fun H locs hP hS => ?_)
    refine lv_icmp_ge (tgt := 71) hx hb dX3_countFaults_12 (by decide) (fun c_12 => ?_) (fun c_12 => ?_)
    · rw [if_pos c_12] at hf
      refine lv_iload_n hx hb dX3_countFaults_71 rfl (lv_at hl 1 rfl) ?_
      exact rt_i (wd := wC ad cI cJ cZ) hx hb hr hlk ⟨Option.some.inj hf, rfl⟩ hP hS dX3_countFaults_72
    · rw [if_neg c_12] at hf
      refine lv_aload_n hx hb dX3_countFaults_15 rfl (lv_at hl 0 rfl) ?_
      refine va_get (D := D) (ci := 2) (v := .long (σ.2 5 9)) (C := RX3) (T := TX3) (N := 13) hx hb hts in_X3_countFaults_X3 hown hK hP 5 (wC_5 _ _ _ _ _) rfl 9 (by decide) (hts (.fieldLink RX3 69 "CallGraphs$Graph" "reached" "J") (List.mem_of_getElem? (i := 2) rfl)) (fun _ h9 => h9) (fC_5_9 _ _) dX3_countFaults_16 ?_
      refine lv_iload_n hx hb dX3_countFaults_19 rfl (lv_at hl 2 rfl) ?_
      obtain ⟨r_20, hg_20, hf⟩ := oc_e hf
      refine mS_i (D := D) (As := [.long (σ.2 5 9), .int v2]) (rest := []) ⟨hx, hb, hml, hown, hts⟩ hP hS (c_X0_has l (σ.2 5 9) v2 hg_20) (va_cwS 2 hts gX3_countFaults_X0_has rfl rfl rfl hd_X0_has ⟨Nat.le_trans (Nat.le_of_ble_eq_true rfl) hR.1, Nat.le_trans (Nat.le_of_ble_eq_true rfl) hR.2⟩) rfl hl.1 rfl (Nat.le_of_ble_eq_true rfl) dX3_countFaults_20 (fun H locs hP hS => ?_)
      refine lv_if_ne (tgt := 29) hx hb dX3_countFaults_23 (by decide) (fun c_23 => ?_) (fun c_23 => ?_)
      · rw [if_neg c_23] at hf
        refine lv_iconst (v := 0) hx hb dX3_countFaults_29 (by decide) ?_
        refine lv_istore_n (lv' := [(3, .int 0), (0, .ref (ad 5)), (1, .int v1), (2, .int v2)]) hx hb dX3_countFaults_30 rfl hl (by decide) rfl (fun ls hl => ?_)
        exact w_X3_countFaults_31 hm hR hK hD σ (p_X3_countFaults_4 σ n) hk4 100000 v1 v2 0 hf _ _ _ hP hS (lv_sub hl [1, 2, 3, 0] rfl)
      · rw [if_pos c_23] at hf
        refine lv_goto (tgt := 65) hx hb dX3_countFaults_26 (by decide) ?_
        exact w_X3_countFaults_65 hm hR hK hD σ (p_X3_countFaults_4 σ n) hk4 v1 v2 hf _ _ _ hP hS (lv_sub hl [0, 1, 2] rfl)
def p_X3_countFaults_0 (σ : SS) : Option (Int32) := p_X3_countFaults_4 σ 100000 0 0
set_option maxHeartbeats 4000000 in
set_option maxRecDepth 100000 in
theorem w_X3_countFaults_0 {p : Program} {l : Launch} {e : Env} {R : Room} {s : State} {m : MethodId} {args : Array Value} {below : List Frame} {meth : Method} {c : Code} {D : va_G} {ad : Nat → Nat} {cI cJ cZ : ClassId} {res : Int32} (hm : mx p s m args meth c cX3_countFaults 4 (some .int) wsX3_countFaults RX3) (hR : 5 ≤ R.frames ∧ 118 ≤ R.locals) (hK : va_K D vwCl (tyw cI cJ cZ) s) (hD : ∀ σ, va_D (aC ad) (wC ad cI cJ cZ σ)) (σ : SS) (hf : p_X3_countFaults_0 σ = some res) (H : Heap) (locs : List Loc) (ls : Array Slot) (hP : va_P D vwCl (wC ad cI cJ cZ σ) H) (hS : va_S (aC ad) s.heap H locs) (hl : lv_has ls 4 [(0, .ref (ad 5))]) : W p l e R s m args below meth c H locs 0 0 (MQ below (va_Qi (fun (r : Int32) (u : SS) => r = res ∧ u = σ) (fun u t => va_P D vwCl (wC ad cI cJ cZ u) t.heap) (aC ad)) args s 0 0 (aC ad)) (F0 m 0 ls []) := by
  obtain ⟨hx, hb, hr, hml, hown, hts, hlk⟩ := id hm
  unfold p_X3_countFaults_0 at hf
  refine lv_iconst (v := 0) hx hb dX3_countFaults_0 (by decide) ?_
  refine lv_istore_n (lv' := [(1, .int 0), (0, .ref (ad 5))]) hx hb dX3_countFaults_1 rfl hl (by decide) rfl (fun ls hl => ?_)
  refine lv_iconst (v := 0) hx hb dX3_countFaults_2 (by decide) ?_
  refine lv_istore_n (lv' := [(2, .int 0), (1, .int 0), (0, .ref (ad 5))]) hx hb dX3_countFaults_3 rfl hl (by decide) rfl (fun ls hl => ?_)
  exact w_X3_countFaults_4 hm hR hK hD σ 100000 0 0 hf _ _ _ hP hS (lv_sub hl [2, 1, 0] rfl)
theorem hd_X3_countFaults : yX3_countFaults.cls = RX3 ∧ yX3_countFaults.cls ≠ "java/lang/invoke/MethodHandle" ∧ yX3_countFaults.cls ≠ "java/lang/invoke/VarHandle" ∧ (parseMethodDescriptor yX3_countFaults.desc).map (fun d => d.parameters.length) = some 0 := by decide +kernel
set_option maxHeartbeats 4000000 in
set_option maxRecDepth 100000 in
theorem c_X3_countFaults (l : Launch) (D : va_G) (ad : Nat → Nat) (cI cJ cZ : ClassId) (σ : SS) {res : Int32} (hf : p_X3_countFaults_0 σ = some res) : Met l yX3_countFaults wsX3_countFaults ({ frames := 5, cells := 0, slots := 0, locals := 118 } : Room) (PW D (tyw cI cJ cZ) (wC ad cI cJ cZ σ) [.ref (ad 5)]) (va_Qi (fun (r : Int32) (u : SS) => r = res ∧ u = σ) (fun u t => va_P D vwCl (wC ad cI cJ cZ u) t.heap) (aC ad)) 0 0 (aC ad) := by
  refine Met.ofW (cc := cX3_countFaults) (maxL := 4) (ret := (some .int)) (by decide) rfl ?_
  intro p e s m args below meth c s₁ B hml hv
  obtain ⟨rfl, hP, hK, hD0⟩ := hv
  have hD : ∀ σ, va_D (aC ad) (wC ad cI cJ cZ σ) := fun σ => wd_D hD0 (wC_map _ _ _ _ _) (wC_map _ _ _ _ _)
  have hm : mx p s m _ meth c cX3_countFaults 4 (some .int) wsX3_countFaults RX3 := ⟨B.exec, B.bytes, B.returns, hml, findClass_of_methodNamed B.named, atoms_spec (ws := wsX3_countFaults) B.pre, B.notSynchronized⟩
  have hl := lv_entry ([.ref (ad 5)]) (n := 4) (Nat.le_of_ble_eq_true rfl)
  rw [lg_entry_eq]
  generalize (lg_sl ([.ref (ad 5)]) ++ List.replicate (4 - (lg_sl ([.ref (ad 5)])).length) Slot.unset).toArray = ls at hl ⊢
  exact w_X3_countFaults_0 hm ⟨Nat.le_refl _, Nat.le_refl _⟩ hK hD σ hf _ _ _ hP va_S.rf hl
/-! CallGraphs$Graph.layWay(I)I -/
theorem in_X3_layWay_X3 : ∀ w ∈ u_ws RX3 TX3 13, w ∈ wsX3_layWay := fun w h => List.mem_cons_of_mem _ (List.mem_append_left _ (List.mem_append_right _ h))
def p_X3_layWay_7 : Nat → Int64 → Int32 → SS → Option (Int32 × SS)
  | 0, _, _, _ => none
  | n + 1, v2, v4, σ => let k7 := p_X3_layWay_7 n; if 48 ≤ v4 then some ((-1), σ) else oi v4 48 (os (sL σ 28 (v4.toNatClampNeg) v2) (fun s_21 => oc (p_X4_roots_0 s_21) (fun r_27 => if (lg_cmp (v2 &&& r_27) 0) = 0 then oc (p_X3_callersOfAny_0 s_21 v2) (fun r_41 => k7 r_41 (v4 + 1) s_21) else some (v4, s_21))))
set_option maxHeartbeats 4000000 in
set_option maxRecDepth 100000 in
theorem w_X3_layWay_7 {p : Program} {l : Launch} {e : Env} {R : Room} {s : State} {m : MethodId} {args : Array Value} {below : List Frame} {meth : Method} {c : Code} {D : va_G} {ad : Nat → Nat} {cI cJ cZ : ClassId} {res : Int32 × SS} (hm : mx p s m args meth c cX3_layWay 5 (some .int) wsX3_layWay RX3) (hR : 2 ≤ R.frames ∧ 47 ≤ R.locals) (hK : va_K D vwCl (tyw cI cJ cZ) s) (hD : ∀ σ, va_D (aC ad) (wC ad cI cJ cZ σ)) : ∀ (n : Nat) (v2 : Int64) (v4 : Int32) (σ : SS), p_X3_layWay_7 n v2 v4 σ = some res → ∀ (H : Heap) (locs : List Loc) (ls : Array Slot), va_P D vwCl (wC ad cI cJ cZ σ) H → va_S (aC ad) s.heap H locs → lv_has ls 5 [(0, .ref (ad 5)), (2, .long v2), (4, .int v4)] → W p l e R s m args below meth c H locs 0 0 (MQ below (va_Qi (fun (r : Int32) (u : SS) => (r, u) = res) (fun u t => va_P D vwCl (wC ad cI cJ cZ u) t.heap) (aC ad)) args s 0 0 (aC ad)) (F0 m 7 ls []) := by
  obtain ⟨hx, hb, hr, hml, hown, hts, hlk⟩ := id hm
  intro n
  induction n with
  | zero =>
    intro _ _ _ hf
    cases hf
  | succ n hk7 =>
    intro v2 v4 σ hf H locs ls hP hS hl
    rw [p_X3_layWay_7] at hf
    try dsimp only at hf
    refine lv_iload hx hb dX3_layWay_7 (lv_at hl 2 rfl) ?_
    refine lv_bipush (v := 48) hx hb dX3_layWay_9 (by decide) ?_
    refine lv_icmp_ge (tgt := 51) hx hb dX3_layWay_11 (by decide) (fun c_11 => ?_) (fun c_11 => ?_)
    · rw [if_pos c_11] at hf
      refine lv_iconst (v := (-1)) hx hb dX3_layWay_51 (by decide) ?_
      exact rt_i (wd := wC ad cI cJ cZ) hx hb hr hlk (Option.some.inj hf) hP hS dX3_layWay_52
    · rw [if_neg c_11] at hf
      refine lv_aload_n hx hb dX3_layWay_14 rfl (lv_at hl 0 rfl) ?_
      refine va_get (D := D) (ci := 2) (v := .ref (ad 28)) (C := RX3) (T := TX3) (N := 13) hx hb hts in_X3_layWay_X3 hown hK hP 5 (wC_5 _ _ _ _ _) rfl 8 (by decide) (hts (.fieldLink RX3 24 "CallGraphs$Graph" "layers" "[J") (List.mem_of_getElem? (i := 1) rfl)) (fun _ h9 => h9) (fC_5_8 _ _) dX3_layWay_15 ?_
      refine lv_iload hx hb dX3_layWay_18 (lv_at hl 2 rfl) ?_
      refine lv_lload_n hx hb dX3_layWay_20 rfl (lv_at hl 1 rfl) ?_
      obtain ⟨h_21, hf⟩ := oi_e hf
      refine va_last hx hb hK hP (hD _) hS 28 1 (wC_28 _ _ _ _ _) rfl h_21 dX3_layWay_21 (fun H locs hP _ hS => ?_)
      have hP := wC_s28 hP
      obtain ⟨s_21, es_21, hf⟩ := os_e hf
      rw [← es_21] at hP
      refine lv_lload_n hx hb dX3_layWay_22 rfl (lv_at hl 1 rfl) ?_
      refine lv_aload_n hx hb dX3_layWay_23 rfl (lv_at hl 0 rfl) ?_
      refine va_get (D := D) (ci := 2) (v := .ref (ad 2)) (C := RX3) (T := TX3) (N := 13) hx hb hts in_X3_layWay_X3 hown hK hP 5 (wC_5 _ _ _ _ _) rfl 1 (by decide) (hts (.fieldLink RX3 31 "CallGraphs$Graph" "members" "LCallGraphs$Members;") (List.mem_of_getElem? (i := 2) rfl)) (fun _ h9 => h9) (fC_5_1 _ _) dX3_layWay_24 ?_
      obtain ⟨r_27, hg_27, hf⟩ := oc_e hf
      refine mV_rl (wd := wC ad cI cJ cZ) (σ := s_21) (As := []) (rest := [.long v2]) ⟨hx, hb, hml, hown, hts⟩ hK hP hD hS (c_X4_roots l D ad cI cJ cZ s_21 hg_27) (cwV 0 hts gX3_layWay_X4_roots rfl rfl rfl hd_X4_roots ⟨Nat.le_trans (Nat.le_of_ble_eq_true rfl) hR.1, Nat.le_trans (Nat.le_of_ble_eq_true rfl) hR.2⟩) rfl (wC_2 _ _ _ _ _) rfl hl.1 rfl (Nat.le_of_ble_eq_true rfl) dX3_layWay_27 (fun H locs hP hS => ?_)
      refine lv_land hx hb dX3_layWay_30 ?_
      refine lv_lconst (v := 0) hx hb dX3_layWay_31 (by decide) ?_
      refine W.lcmp hx hb dX3_layWay_32 ?_
      refine lv_if_eq (tgt := 39) hx hb dX3_layWay_33 (by decide) (fun c_33 => ?_) (fun c_33 => ?_)
      · rw [if_pos c_33] at hf
        refine lv_aload_n hx hb dX3_layWay_39 rfl (lv_at hl 0 rfl) ?_
        refine lv_lload_n hx hb dX3_layWay_40 rfl (lv_at hl 1 rfl) ?_
        obtain ⟨r_41, hg_41, hf⟩ := oc_e hf
        refine mV_rl (wd := wC ad cI cJ cZ) (σ := s_21) (As := [.long v2]) (rest := []) ⟨hx, hb, hml, hown, hts⟩ hK hP hD hS (c_X3_callersOfAny l D ad cI cJ cZ s_21 v2 hg_41) (cwV 1 hts gX3_layWay_X3_callersOfAny rfl rfl rfl hd_X3_callersOfAny ⟨Nat.le_trans (Nat.le_of_ble_eq_true rfl) hR.1, Nat.le_trans (Nat.le_of_ble_eq_true rfl) hR.2⟩) rfl (wC_5 _ _ _ _ _) rfl hl.1 rfl (Nat.le_of_ble_eq_true rfl) dX3_layWay_41 (fun H locs hP hS => ?_)
        refine lv_lstore_n (lv' := [(2, .long r_41), (0, .ref (ad 5)), (4, .int v4)]) hx hb dX3_layWay_44 rfl hl (by decide) rfl (fun ls hl => ?_)
        refine lv_iinc (v := (v4 + 1)) (lv' := [(4, .int (v4 + 1)), (2, .long r_41), (0, .ref (ad 5))]) hx hb dX3_layWay_45 hl (k := 2) rfl rfl (by decide) rfl (fun ls hl => ?_)
        refine lv_goto (tgt := 7) hx hb dX3_layWay_48 (by decide) ?_
        exact hk7 r_41 (v4 + 1) s_21 hf _ _ _ hP hS (lv_sub hl [2, 1, 0] rfl)
      · rw [if_neg c_33] at hf
        refine lv_iload hx hb dX3_layWay_36 (lv_at hl 2 rfl) ?_
        exact rt_i (wd := wC ad cI cJ cZ) hx hb hr hlk (Option.some.inj hf) hP hS dX3_layWay_38
def p_X3_layWay_0 (v1 : Int32) (σ : SS) : Option (Int32 × SS) := p_X3_layWay_7 100000 (jshl 1 v1) 0 σ
set_option maxHeartbeats 4000000 in
set_option maxRecDepth 100000 in
theorem w_X3_layWay_0 {p : Program} {l : Launch} {e : Env} {R : Room} {s : State} {m : MethodId} {args : Array Value} {below : List Frame} {meth : Method} {c : Code} {D : va_G} {ad : Nat → Nat} {cI cJ cZ : ClassId} {res : Int32 × SS} (hm : mx p s m args meth c cX3_layWay 5 (some .int) wsX3_layWay RX3) (hR : 2 ≤ R.frames ∧ 47 ≤ R.locals) (hK : va_K D vwCl (tyw cI cJ cZ) s) (hD : ∀ σ, va_D (aC ad) (wC ad cI cJ cZ σ)) (v1 : Int32) (σ : SS) (hf : p_X3_layWay_0 v1 σ = some res) (H : Heap) (locs : List Loc) (ls : Array Slot) (hP : va_P D vwCl (wC ad cI cJ cZ σ) H) (hS : va_S (aC ad) s.heap H locs) (hl : lv_has ls 5 [(0, .ref (ad 5)), (1, .int v1)]) : W p l e R s m args below meth c H locs 0 0 (MQ below (va_Qi (fun (r : Int32) (u : SS) => (r, u) = res) (fun u t => va_P D vwCl (wC ad cI cJ cZ u) t.heap) (aC ad)) args s 0 0 (aC ad)) (F0 m 0 ls []) := by
  obtain ⟨hx, hb, hr, hml, hown, hts, hlk⟩ := id hm
  unfold p_X3_layWay_0 at hf
  refine lv_lconst (v := 1) hx hb dX3_layWay_0 (by decide) ?_
  refine lv_iload_n hx hb dX3_layWay_1 rfl (lv_at hl 1 rfl) ?_
  refine lv_lshl (v := (jshl 1 v1)) hx hb dX3_layWay_2 rfl ?_
  refine lv_lstore_n (lv' := [(2, .long (jshl 1 v1)), (0, .ref (ad 5)), (1, .int v1)]) hx hb dX3_layWay_3 rfl hl (by decide) rfl (fun ls hl => ?_)
  refine lv_iconst (v := 0) hx hb dX3_layWay_4 (by decide) ?_
  refine lv_istore (lv' := [(4, .int 0), (2, .long (jshl 1 v1)), (0, .ref (ad 5)), (1, .int v1)]) hx hb dX3_layWay_5 hl (by decide) rfl (fun ls hl => ?_)
  exact w_X3_layWay_7 hm hR hK hD 100000 (jshl 1 v1) 0 σ hf _ _ _ hP hS (lv_sub hl [2, 1, 0] rfl)
theorem hd_X3_layWay : yX3_layWay.cls = RX3 ∧ yX3_layWay.cls ≠ "java/lang/invoke/MethodHandle" ∧ yX3_layWay.cls ≠ "java/lang/invoke/VarHandle" ∧ (parseMethodDescriptor yX3_layWay.desc).map (fun d => d.parameters.length) = some 1 := by decide +kernel
set_option maxHeartbeats 4000000 in
set_option maxRecDepth 100000 in
theorem c_X3_layWay (l : Launch) (D : va_G) (ad : Nat → Nat) (cI cJ cZ : ClassId) (σ : SS) (v1 : Int32) {res : Int32 × SS} (hf : p_X3_layWay_0 v1 σ = some res) : Met l yX3_layWay wsX3_layWay ({ frames := 2, cells := 0, slots := 0, locals := 47 } : Room) (PW D (tyw cI cJ cZ) (wC ad cI cJ cZ σ) [.ref (ad 5), .int v1]) (va_Qi (fun (r : Int32) (u : SS) => (r, u) = res) (fun u t => va_P D vwCl (wC ad cI cJ cZ u) t.heap) (aC ad)) 0 0 (aC ad) := by
  refine Met.ofW (cc := cX3_layWay) (maxL := 5) (ret := (some .int)) (by decide) rfl ?_
  intro p e s m args below meth c s₁ B hml hv
  obtain ⟨rfl, hP, hK, hD0⟩ := hv
  have hD : ∀ σ, va_D (aC ad) (wC ad cI cJ cZ σ) := fun σ => wd_D hD0 (wC_map _ _ _ _ _) (wC_map _ _ _ _ _)
  have hm : mx p s m _ meth c cX3_layWay 5 (some .int) wsX3_layWay RX3 := ⟨B.exec, B.bytes, B.returns, hml, findClass_of_methodNamed B.named, atoms_spec (ws := wsX3_layWay) B.pre, B.notSynchronized⟩
  have hl := lv_entry ([.ref (ad 5), .int v1]) (n := 5) (Nat.le_of_ble_eq_true rfl)
  rw [lg_entry_eq]
  generalize (lg_sl ([.ref (ad 5), .int v1]) ++ List.replicate (5 - (lg_sl ([.ref (ad 5), .int v1])).length) Slot.unset).toArray = ls at hl ⊢
  exact w_X3_layWay_0 hm ⟨Nat.le_refl _, Nat.le_refl _⟩ hK hD v1 σ hf _ _ _ hP va_S.rf hl
/-! CallGraphs$Graph.onWay(II)I -/
theorem in_X3_onWay_X3 : ∀ w ∈ u_ws RX3 TX3 13, w ∈ wsX3_onWay := fun w h => List.mem_cons_of_mem _ (List.mem_append_left _ (List.mem_append_right _ h))
def p_X3_onWay_28 (σ : SS) : Option (Int32 × SS) := some ((-1), σ)
set_option maxHeartbeats 4000000 in
set_option maxRecDepth 100000 in
theorem w_X3_onWay_28 {p : Program} {l : Launch} {e : Env} {R : Room} {s : State} {m : MethodId} {args : Array Value} {below : List Frame} {meth : Method} {c : Code} {D : va_G} {ad : Nat → Nat} {cI cJ cZ : ClassId} {res : Int32 × SS} (hm : mx p s m args meth c cX3_onWay 6 (some .int) wsX3_onWay RX3) (hR : 3 ≤ R.frames ∧ 71 ≤ R.locals) (hK : va_K D vwCl (tyw cI cJ cZ) s) (hD : ∀ σ, va_D (aC ad) (wC ad cI cJ cZ σ)) (σ : SS) (hf : p_X3_onWay_28 σ = some res) (H : Heap) (locs : List Loc) (ls : Array Slot) (hP : va_P D vwCl (wC ad cI cJ cZ σ) H) (hS : va_S (aC ad) s.heap H locs) (hl : lv_has ls 6 []) : W p l e R s m args below meth c H locs 0 0 (MQ below (va_Qi (fun (r : Int32) (u : SS) => (r, u) = res) (fun u t => va_P D vwCl (wC ad cI cJ cZ u) t.heap) (aC ad)) args s 0 0 (aC ad)) (F0 m 28 ls []) := by
  obtain ⟨hx, hb, hr, hml, hown, hts, hlk⟩ := id hm
  unfold p_X3_onWay_28 at hf
  refine lv_iconst (v := (-1)) hx hb dX3_onWay_28 (by decide) ?_
  exact rt_i (wd := wC ad cI cJ cZ) hx hb hr hlk (Option.some.inj hf) hP hS dX3_onWay_29
def p_X3_onWay_92 (v4 : Int32) (σ : SS) : Option (Int32 × SS) := some (v4, σ)
set_option maxHeartbeats 4000000 in
set_option maxRecDepth 100000 in
theorem w_X3_onWay_92 {p : Program} {l : Launch} {e : Env} {R : Room} {s : State} {m : MethodId} {args : Array Value} {below : List Frame} {meth : Method} {c : Code} {D : va_G} {ad : Nat → Nat} {cI cJ cZ : ClassId} {res : Int32 × SS} (hm : mx p s m args meth c cX3_onWay 6 (some .int) wsX3_onWay RX3) (hR : 3 ≤ R.frames ∧ 71 ≤ R.locals) (hK : va_K D vwCl (tyw cI cJ cZ) s) (hD : ∀ σ, va_D (aC ad) (wC ad cI cJ cZ σ)) (v4 : Int32) (σ : SS) (hf : p_X3_onWay_92 v4 σ = some res) (H : Heap) (locs : List Loc) (ls : Array Slot) (hP : va_P D vwCl (wC ad cI cJ cZ σ) H) (hS : va_S (aC ad) s.heap H locs) (hl : lv_has ls 6 [(4, .int v4)]) : W p l e R s m args below meth c H locs 0 0 (MQ below (va_Qi (fun (r : Int32) (u : SS) => (r, u) = res) (fun u t => va_P D vwCl (wC ad cI cJ cZ u) t.heap) (aC ad)) args s 0 0 (aC ad)) (F0 m 92 ls []) := by
  obtain ⟨hx, hb, hr, hml, hown, hts, hlk⟩ := id hm
  unfold p_X3_onWay_92 at hf
  refine lv_iload hx hb dX3_onWay_92 (lv_at hl 0 rfl) ?_
  exact rt_i (wd := wC ad cI cJ cZ) hx hb hr hlk (Option.some.inj hf) hP hS dX3_onWay_94
def p_X3_onWay_52 : Nat → Int32 → Int32 → Int32 → Int32 → SS → Option (Int32 × SS)
  | 0, _, _, _, _, _ => none
  | n + 1, v2, v3, v4, v5, σ => let k52 := p_X3_onWay_52 n; if v2 < v5 then p_X3_onWay_92 v4 σ else if v4 = (-1) then p_X3_onWay_92 v4 σ else oi (v3 - v5) 48 (oi v4 48 (oc (p_X0_least_0 ((σ.2 28 (v3 - v5).toNatClampNeg) &&& (σ.2 26 v4.toNatClampNeg))) (fun r_81 => k52 v2 v3 r_81 (v5 + 1) σ)))
set_option maxHeartbeats 4000000 in
set_option maxRecDepth 100000 in
theorem w_X3_onWay_52 {p : Program} {l : Launch} {e : Env} {R : Room} {s : State} {m : MethodId} {args : Array Value} {below : List Frame} {meth : Method} {c : Code} {D : va_G} {ad : Nat → Nat} {cI cJ cZ : ClassId} {res : Int32 × SS} (hm : mx p s m args meth c cX3_onWay 6 (some .int) wsX3_onWay RX3) (hR : 3 ≤ R.frames ∧ 71 ≤ R.locals) (hK : va_K D vwCl (tyw cI cJ cZ) s) (hD : ∀ σ, va_D (aC ad) (wC ad cI cJ cZ σ)) : ∀ (n : Nat) (v2 : Int32) (v3 : Int32) (v4 : Int32) (v5 : Int32) (σ : SS), p_X3_onWay_52 n v2 v3 v4 v5 σ = some res → ∀ (H : Heap) (locs : List Loc) (ls : Array Slot), va_P D vwCl (wC ad cI cJ cZ σ) H → va_S (aC ad) s.heap H locs → lv_has ls 6 [(0, .ref (ad 5)), (2, .int v2), (3, .int v3), (4, .int v4), (5, .int v5)] → W p l e R s m args below meth c H locs 0 0 (MQ below (va_Qi (fun (r : Int32) (u : SS) => (r, u) = res) (fun u t => va_P D vwCl (wC ad cI cJ cZ u) t.heap) (aC ad)) args s 0 0 (aC ad)) (F0 m 52 ls []) := by
  obtain ⟨hx, hb, hr, hml, hown, hts, hlk⟩ := id hm
  intro n
  induction n with
  | zero =>
    intro _ _ _ _ _ hf
    cases hf
  | succ n hk52 =>
    intro v2 v3 v4 v5 σ hf H locs ls hP hS hl
    rw [p_X3_onWay_52] at hf
    try dsimp only at hf
    refine lv_iload hx hb dX3_onWay_52 (lv_at hl 4 rfl) ?_
    refine lv_iload_n hx hb dX3_onWay_54 rfl (lv_at hl 1 rfl) ?_
    refine lv_icmp_gt (tgt := 92) hx hb dX3_onWay_55 (by decide) (fun c_55 => ?_) (fun c_55 => ?_)
    · rw [if_pos c_55] at hf
      exact w_X3_onWay_92 hm hR hK hD v4 σ hf _ _ _ hP hS (lv_sub hl [3] rfl)
    · rw [if_neg c_55] at hf
      refine lv_iload hx hb dX3_onWay_58 (lv_at hl 3 rfl) ?_
      refine lv_iconst (v := (-1)) hx hb dX3_onWay_60 (by decide) ?_
      refine lv_icmp_eq (tgt := 92) hx hb dX3_onWay_61 (by decide) (fun c_61 => ?_) (fun c_61 => ?_)
      · rw [if_pos c_61] at hf
        exact w_X3_onWay_92 hm hR hK hD v4 σ hf _ _ _ hP hS (lv_sub hl [3] rfl)
      · rw [if_neg c_61] at hf
        refine lv_aload_n hx hb dX3_onWay_64 rfl (lv_at hl 0 rfl) ?_
        refine va_get (D := D) (ci := 2) (v := .ref (ad 28)) (C := RX3) (T := TX3) (N := 13) hx hb hts in_X3_onWay_X3 hown hK hP 5 (wC_5 _ _ _ _ _) rfl 8 (by decide) (hts (.fieldLink RX3 24 "CallGraphs$Graph" "layers" "[J") (List.mem_of_getElem? (i := 2) rfl)) (fun _ h9 => h9) (fC_5_8 _ _) dX3_onWay_65 ?_
        refine lv_iload_n hx hb dX3_onWay_68 rfl (lv_at hl 2 rfl) ?_
        refine lv_iload hx hb dX3_onWay_69 (lv_at hl 4 rfl) ?_
        refine lv_isub hx hb dX3_onWay_71 ?_
        obtain ⟨h_72, hf⟩ := oi_e hf
        refine va_lald hx hb hK hP 28 1 (wC_28 _ _ _ _ _) rfl h_72 dX3_onWay_72 ?_
        refine lv_aload_n hx hb dX3_onWay_73 rfl (lv_at hl 0 rfl) ?_
        refine va_get (D := D) (ci := 2) (v := .ref (ad 26)) (C := RX3) (T := TX3) (N := 13) hx hb hts in_X3_onWay_X3 hown hK hP 5 (wC_5 _ _ _ _ _) rfl 6 (by decide) (hts (.fieldLink RX3 18 "CallGraphs$Graph" "calls" "[J") (List.mem_of_getElem? (i := 4) rfl)) (fun _ h9 => h9) (fC_5_6 _ _) dX3_onWay_74 ?_
        refine lv_iload hx hb dX3_onWay_77 (lv_at hl 3 rfl) ?_
        obtain ⟨h_79, hf⟩ := oi_e hf
        refine va_lald hx hb hK hP 26 1 (wC_26 _ _ _ _ _) rfl h_79 dX3_onWay_79 ?_
        refine lv_land hx hb dX3_onWay_80 ?_
        obtain ⟨r_81, hg_81, hf⟩ := oc_e hf
        refine mS_i (D := D) (As := [.long ((σ.2 28 (v3 - v5).toNatClampNeg) &&& (σ.2 26 v4.toNatClampNeg))]) (rest := []) ⟨hx, hb, hml, hown, hts⟩ hP hS (c_X0_least l ((σ.2 28 (v3 - v5).toNatClampNeg) &&& (σ.2 26 v4.toNatClampNeg)) hg_81) (va_cwS 1 hts gX3_onWay_X0_least rfl rfl rfl hd_X0_least ⟨Nat.le_trans (Nat.le_of_ble_eq_true rfl) hR.1, Nat.le_trans (Nat.le_of_ble_eq_true rfl) hR.2⟩) rfl hl.1 rfl (Nat.le_of_ble_eq_true rfl) dX3_onWay_81 (fun H locs hP hS => ?_)
        refine lv_istore (lv' := [(4, .int r_81), (0, .ref (ad 5)), (2, .int v2), (3, .int v3), (5, .int v5)]) hx hb dX3_onWay_84 hl (by decide) rfl (fun ls hl => ?_)
        refine lv_iinc (v := (v5 + 1)) (lv' := [(5, .int (v5 + 1)), (4, .int r_81), (0, .ref (ad 5)), (2, .int v2), (3, .int v3)]) hx hb dX3_onWay_86 hl (k := 4) rfl rfl (by decide) rfl (fun ls hl => ?_)
        refine lv_goto (tgt := 52) hx hb dX3_onWay_89 (by decide) ?_
        exact hk52 v2 v3 r_81 (v5 + 1) σ hf _ _ _ hP hS (lv_sub hl [2, 3, 4, 1, 0] rfl)
def p_X3_onWay_0 (v1 : Int32) (v2 : Int32) (σ : SS) : Option (Int32 × SS) := oc (p_X0_has_0 (σ.2 5 9) v1) (fun r_5 => if r_5 = 0 then some ((-1), σ) else oc (p_X3_layWay_0 v1 σ) (fun r_15 => if v2 < 0 then p_X3_onWay_28 r_15.2 else if v2 ≤ r_15.1 then oi r_15.1 48 (oc (p_X4_roots_0 r_15.2) (fun r_40 => oc (p_X0_least_0 ((r_15.2.2 28 r_15.1.toNatClampNeg) &&& r_40)) (fun r_44 => p_X3_onWay_52 100000 v2 r_15.1 r_44 1 r_15.2))) else p_X3_onWay_28 r_15.2))
set_option maxHeartbeats 4000000 in
set_option maxRecDepth 100000 in
theorem w_X3_onWay_0 {p : Program} {l : Launch} {e : Env} {R : Room} {s : State} {m : MethodId} {args : Array Value} {below : List Frame} {meth : Method} {c : Code} {D : va_G} {ad : Nat → Nat} {cI cJ cZ : ClassId} {res : Int32 × SS} (hm : mx p s m args meth c cX3_onWay 6 (some .int) wsX3_onWay RX3) (hR : 3 ≤ R.frames ∧ 71 ≤ R.locals) (hK : va_K D vwCl (tyw cI cJ cZ) s) (hD : ∀ σ, va_D (aC ad) (wC ad cI cJ cZ σ)) (v1 : Int32) (v2 : Int32) (σ : SS) (hf : p_X3_onWay_0 v1 v2 σ = some res) (H : Heap) (locs : List Loc) (ls : Array Slot) (hP : va_P D vwCl (wC ad cI cJ cZ σ) H) (hS : va_S (aC ad) s.heap H locs) (hl : lv_has ls 6 [(0, .ref (ad 5)), (1, .int v1), (2, .int v2)]) : W p l e R s m args below meth c H locs 0 0 (MQ below (va_Qi (fun (r : Int32) (u : SS) => (r, u) = res) (fun u t => va_P D vwCl (wC ad cI cJ cZ u) t.heap) (aC ad)) args s 0 0 (aC ad)) (F0 m 0 ls []) := by
  obtain ⟨hx, hb, hr, hml, hown, hts, hlk⟩ := id hm
  unfold p_X3_onWay_0 at hf
  refine lv_aload_n hx hb dX3_onWay_0 rfl (lv_at hl 0 rfl) ?_
  refine va_get (D := D) (ci := 2) (v := .long (σ.2 5 9)) (C := RX3) (T := TX3) (N := 13) hx hb hts in_X3_onWay_X3 hown hK hP 5 (wC_5 _ _ _ _ _) rfl 9 (by decide) (hts (.fieldLink RX3 69 "CallGraphs$Graph" "reached" "J") (List.mem_of_getElem? (i := 1) rfl)) (fun _ h9 => h9) (fC_5_9 _ _) dX3_onWay_1 ?_
  refine lv_iload_n hx hb dX3_onWay_4 rfl (lv_at hl 1 rfl) ?_
  obtain ⟨r_5, hg_5, hf⟩ := oc_e hf
  refine mS_i (D := D) (As := [.long (σ.2 5 9), .int v1]) (rest := []) ⟨hx, hb, hml, hown, hts⟩ hP hS (c_X0_has l (σ.2 5 9) v1 hg_5) (va_cwS 2 hts gX3_onWay_X0_has rfl rfl rfl hd_X0_has ⟨Nat.le_trans (Nat.le_of_ble_eq_true rfl) hR.1, Nat.le_trans (Nat.le_of_ble_eq_true rfl) hR.2⟩) rfl hl.1 rfl (Nat.le_of_ble_eq_true rfl) dX3_onWay_5 (fun H locs hP hS => ?_)
  refine lv_if_ne (tgt := 13) hx hb dX3_onWay_8 (by decide) (fun c_8 => ?_) (fun c_8 => ?_)
  · rw [if_neg c_8] at hf
    refine lv_aload_n hx hb dX3_onWay_13 rfl (lv_at hl 0 rfl) ?_
    refine lv_iload_n hx hb dX3_onWay_14 rfl (lv_at hl 1 rfl) ?_
    obtain ⟨r_15, hg_15, hf⟩ := oc_e hf
    refine mV_wi (wd := wC ad cI cJ cZ) (σ := σ) (As := [.int v1]) (rest := []) ⟨hx, hb, hml, hown, hts⟩ hK hP hD hS (c_X3_layWay l D ad cI cJ cZ σ v1 hg_15) (cwV 1 hts gX3_onWay_X3_layWay rfl rfl rfl hd_X3_layWay ⟨Nat.le_trans (Nat.le_of_ble_eq_true rfl) hR.1, Nat.le_trans (Nat.le_of_ble_eq_true rfl) hR.2⟩) rfl (wC_5 _ _ _ _ _) rfl hl.1 rfl (Nat.le_of_ble_eq_true rfl) dX3_onWay_15 (fun H locs hP hS => ?_)
    refine lv_istore_n (lv' := [(3, .int r_15.1), (0, .ref (ad 5)), (1, .int v1), (2, .int v2)]) hx hb dX3_onWay_18 rfl hl (by decide) rfl (fun ls hl => ?_)
    refine lv_iload_n hx hb dX3_onWay_19 rfl (lv_at hl 3 rfl) ?_
    refine lv_if_lt (tgt := 28) hx hb dX3_onWay_20 (by decide) (fun c_20 => ?_) (fun c_20 => ?_)
    · rw [if_pos c_20] at hf
      exact w_X3_onWay_28 hm hR hK hD r_15.2 hf _ _ _ hP hS (lv_sub hl [] rfl)
    · rw [if_neg c_20] at hf
      refine lv_iload_n hx hb dX3_onWay_23 rfl (lv_at hl 3 rfl) ?_
      refine lv_iload_n hx hb dX3_onWay_24 rfl (lv_at hl 0 rfl) ?_
      refine lv_icmp_le (tgt := 30) hx hb dX3_onWay_25 (by decide) (fun c_25 => ?_) (fun c_25 => ?_)
      · rw [if_pos c_25] at hf
        refine lv_aload_n hx hb dX3_onWay_30 rfl (lv_at hl 1 rfl) ?_
        refine va_get (D := D) (ci := 2) (v := .ref (ad 28)) (C := RX3) (T := TX3) (N := 13) hx hb hts in_X3_onWay_X3 hown hK hP 5 (wC_5 _ _ _ _ _) rfl 8 (by decide) (hts (.fieldLink RX3 24 "CallGraphs$Graph" "layers" "[J") (List.mem_of_getElem? (i := 2) rfl)) (fun _ h9 => h9) (fC_5_8 _ _) dX3_onWay_31 ?_
        refine lv_iload_n hx hb dX3_onWay_34 rfl (lv_at hl 0 rfl) ?_
        obtain ⟨h_35, hf⟩ := oi_e hf
        refine va_lald hx hb hK hP 28 1 (wC_28 _ _ _ _ _) rfl h_35 dX3_onWay_35 ?_
        refine lv_aload_n hx hb dX3_onWay_36 rfl (lv_at hl 1 rfl) ?_
        refine va_get (D := D) (ci := 2) (v := .ref (ad 2)) (C := RX3) (T := TX3) (N := 13) hx hb hts in_X3_onWay_X3 hown hK hP 5 (wC_5 _ _ _ _ _) rfl 1 (by decide) (hts (.fieldLink RX3 31 "CallGraphs$Graph" "members" "LCallGraphs$Members;") (List.mem_of_getElem? (i := 3) rfl)) (fun _ h9 => h9) (fC_5_1 _ _) dX3_onWay_37 ?_
        obtain ⟨r_40, hg_40, hf⟩ := oc_e hf
        refine mV_rl (wd := wC ad cI cJ cZ) (σ := r_15.2) (As := []) (rest := [.long (r_15.2.2 28 r_15.1.toNatClampNeg)]) ⟨hx, hb, hml, hown, hts⟩ hK hP hD hS (c_X4_roots l D ad cI cJ cZ r_15.2 hg_40) (cwV 0 hts gX3_onWay_X4_roots rfl rfl rfl hd_X4_roots ⟨Nat.le_trans (Nat.le_of_ble_eq_true rfl) hR.1, Nat.le_trans (Nat.le_of_ble_eq_true rfl) hR.2⟩) rfl (wC_2 _ _ _ _ _) rfl hl.1 rfl (Nat.le_of_ble_eq_true rfl) dX3_onWay_40 (fun H locs hP hS => ?_)
        refine lv_land hx hb dX3_onWay_43 ?_
        obtain ⟨r_44, hg_44, hf⟩ := oc_e hf
        refine mS_i (D := D) (As := [.long ((r_15.2.2 28 r_15.1.toNatClampNeg) &&& r_40)]) (rest := []) ⟨hx, hb, hml, hown, hts⟩ hP hS (c_X0_least l ((r_15.2.2 28 r_15.1.toNatClampNeg) &&& r_40) hg_44) (va_cwS 1 hts gX3_onWay_X0_least rfl rfl rfl hd_X0_least ⟨Nat.le_trans (Nat.le_of_ble_eq_true rfl) hR.1, Nat.le_trans (Nat.le_of_ble_eq_true rfl) hR.2⟩) rfl hl.1 rfl (Nat.le_of_ble_eq_true rfl) dX3_onWay_44 (fun H locs hP hS => ?_)
        refine lv_istore (lv' := [(4, .int r_44), (3, .int r_15.1), (0, .ref (ad 5)), (1, .int v1), (2, .int v2)]) hx hb dX3_onWay_47 hl (by decide) rfl (fun ls hl => ?_)
        refine lv_iconst (v := 1) hx hb dX3_onWay_49 (by decide) ?_
        refine lv_istore (lv' := [(5, .int 1), (4, .int r_44), (3, .int r_15.1), (0, .ref (ad 5)), (1, .int v1), (2, .int v2)]) hx hb dX3_onWay_50 hl (by decide) rfl (fun ls hl => ?_)
        exact w_X3_onWay_52 hm hR hK hD 100000 v2 r_15.1 r_44 1 r_15.2 hf _ _ _ hP hS (lv_sub hl [3, 5, 2, 1, 0] rfl)
      · rw [if_neg c_25] at hf
        exact w_X3_onWay_28 hm hR hK hD r_15.2 hf _ _ _ hP hS (lv_sub hl [] rfl)
  · rw [if_pos c_8] at hf
    refine lv_iconst (v := (-1)) hx hb dX3_onWay_11 (by decide) ?_
    exact rt_i (wd := wC ad cI cJ cZ) hx hb hr hlk (Option.some.inj hf) hP hS dX3_onWay_12
theorem hd_X3_onWay : yX3_onWay.cls = RX3 ∧ yX3_onWay.cls ≠ "java/lang/invoke/MethodHandle" ∧ yX3_onWay.cls ≠ "java/lang/invoke/VarHandle" ∧ (parseMethodDescriptor yX3_onWay.desc).map (fun d => d.parameters.length) = some 2 := by decide +kernel
set_option maxHeartbeats 4000000 in
set_option maxRecDepth 100000 in
theorem c_X3_onWay (l : Launch) (D : va_G) (ad : Nat → Nat) (cI cJ cZ : ClassId) (σ : SS) (v1 : Int32) (v2 : Int32) {res : Int32 × SS} (hf : p_X3_onWay_0 v1 v2 σ = some res) : Met l yX3_onWay wsX3_onWay ({ frames := 3, cells := 0, slots := 0, locals := 71 } : Room) (PW D (tyw cI cJ cZ) (wC ad cI cJ cZ σ) [.ref (ad 5), .int v1, .int v2]) (va_Qi (fun (r : Int32) (u : SS) => (r, u) = res) (fun u t => va_P D vwCl (wC ad cI cJ cZ u) t.heap) (aC ad)) 0 0 (aC ad) := by
  refine Met.ofW (cc := cX3_onWay) (maxL := 6) (ret := (some .int)) (by decide) rfl ?_
  intro p e s m args below meth c s₁ B hml hv
  obtain ⟨rfl, hP, hK, hD0⟩ := hv
  have hD : ∀ σ, va_D (aC ad) (wC ad cI cJ cZ σ) := fun σ => wd_D hD0 (wC_map _ _ _ _ _) (wC_map _ _ _ _ _)
  have hm : mx p s m _ meth c cX3_onWay 6 (some .int) wsX3_onWay RX3 := ⟨B.exec, B.bytes, B.returns, hml, findClass_of_methodNamed B.named, atoms_spec (ws := wsX3_onWay) B.pre, B.notSynchronized⟩
  have hl := lv_entry ([.ref (ad 5), .int v1, .int v2]) (n := 6) (Nat.le_of_ble_eq_true rfl)
  rw [lg_entry_eq]
  generalize (lg_sl ([.ref (ad 5), .int v1, .int v2]) ++ List.replicate (6 - (lg_sl ([.ref (ad 5), .int v1, .int v2])).length) Slot.unset).toArray = ls at hl ⊢
  exact w_X3_onWay_0 hm ⟨Nat.le_refl _, Nat.le_refl _⟩ hK hD v1 v2 σ hf _ _ _ hP va_S.rf hl
