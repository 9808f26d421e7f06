/-! CallGraphsModel.in(III)Z -/

def p_X8_in_15 (t0 : Int32) : Option (Int32) := ob t0 (some t0)
set_option maxHeartbeats 4000000 in
set_option maxRecDepth 100000 in
theorem w_X8_in_15 {p : Program} {l : Launch} {e : Env} {R : Room} {s : State} {m : MethodId} {args : Array Value} {below : List Frame} {meth : Method} {c : Code} {res : Int32} (hm : mx p s m args meth c cX8_in 3 (some .boolean) wsX8_in RX8) (hR : 0 ≤ R.frames ∧ 0 ≤ R.locals) (t0 : Int32) (hf : p_X8_in_15 t0 = some res) (H : Heap) (locs : List Loc) (ls : Array Slot) (hS : va_S (fun _ => False) s.heap H locs) (hl : lv_has ls 3 []) : W p l e R s m args below meth c H locs 0 0 (MQ below (va_Qi (fun (r : Int32) (_ : Unit) => r = res) (fun _ _ => True) (fun _ => False)) args s 0 0 (fun _ => False)) (F0 m 15 ls [.int t0]) := by
  obtain ⟨hx, hb, hr, hml, hown, hts, hlk⟩ := id hm
  unfold p_X8_in_15 at hf
  obtain ⟨h_15, hf⟩ := ob_e hf
  exact rs_z hx hb hr hlk h_15 (Option.some.inj hf) hS dX8_in_15
def p_X8_in_14 : Option (Int32) := p_X8_in_15 0
set_option maxHeartbeats 4000000 in
set_option maxRecDepth 100000 in
theorem w_X8_in_14 {p : Program} {l : Launch} {e : Env} {R : Room} {s : State} {m : MethodId} {args : Array Value} {below : List Frame} {meth : Method} {c : Code} {res : Int32} (hm : mx p s m args meth c cX8_in 3 (some .boolean) wsX8_in RX8) (hR : 0 ≤ R.frames ∧ 0 ≤ R.locals) (hf : p_X8_in_14 = some res) (H : Heap) (locs : List Loc) (ls : Array Slot) (hS : va_S (fun _ => False) s.heap H locs) (hl : lv_has ls 3 []) : W p l e R s m args below meth c H locs 0 0 (MQ below (va_Qi (fun (r : Int32) (_ : Unit) => r = res) (fun _ _ => True) (fun _ => False)) args s 0 0 (fun _ => False)) (F0 m 14 ls []) := by
  obtain ⟨hx, hb, hr, hml, hown, hts, hlk⟩ := id hm
  unfold p_X8_in_14 at hf
  refine lv_iconst (v := 0) hx hb dX8_in_14 (by decide) ?_
  exact w_X8_in_15 hm hR 0 hf _ _ _ hS (lv_sub hl [] rfl)
def p_X8_in_0 (v0 : Int32) (v1 : Int32) (v2 : Int32) : Option (Int32) := if v0 < v1 then p_X8_in_14 else if v2 < v0 then p_X8_in_14 else p_X8_in_15 1
set_option maxHeartbeats 4000000 in
set_option maxRecDepth 100000 in
theorem w_X8_in_0 {p : Program} {l : Launch} {e : Env} {R : Room} {s : State} {m : MethodId} {args : Array Value} {below : List Frame} {meth : Method} {c : Code} {res : Int32} (hm : mx p s m args meth c cX8_in 3 (some .boolean) wsX8_in RX8) (hR : 0 ≤ R.frames ∧ 0 ≤ R.locals) (v0 : Int32) (v1 : Int32) (v2 : Int32) (hf : p_X8_in_0 v0 v1 v2 = some res) (H : Heap) (locs : List Loc) (ls : Array Slot) (hS : va_S (fun _ => False) s.heap H locs) (hl : lv_has ls 3 [(0, .int v0), (1, .int v1), (2, .int v2)]) : W p l e R s m args below meth c H locs 0 0 (MQ below (va_Qi (fun (r : Int32) (_ : Unit) => r = res) (fun _ _ => True) (fun _ => False)) args s 0 0 (fun _ => False)) (F0 m 0 ls []) := by
  obtain ⟨hx, hb, hr, hml, hown, hts, hlk⟩ := id hm
  unfold p_X8_in_0 at hf
  refine lv_iload_n hx hb dX8_in_0 rfl (lv_at hl 0 rfl) ?_
  refine lv_iload_n hx hb dX8_in_1 rfl (lv_at hl 1 rfl) ?_
  refine lv_icmp_lt (tgt := 14) hx hb dX8_in_2 (by decide) (fun c_2 => ?_) (fun c_2 => ?_)
  · rw [if_pos c_2] at hf
    exact w_X8_in_14 hm hR hf _ _ _ hS (lv_sub hl [] rfl)
  · rw [if_neg c_2] at hf
    refine lv_iload_n hx hb dX8_in_5 rfl (lv_at hl 0 rfl) ?_
    refine lv_iload_n hx hb dX8_in_6 rfl (lv_at hl 2 rfl) ?_
    refine lv_icmp_gt (tgt := 14) hx hb dX8_in_7 (by decide) (fun c_7 => ?_) (fun c_7 => ?_)
    · rw [if_pos c_7] at hf
      exact w_X8_in_14 hm hR hf _ _ _ hS (lv_sub hl [] rfl)
    · rw [if_neg c_7] at hf
      refine lv_iconst (v := 1) hx hb dX8_in_10 (by decide) ?_
      refine lv_goto (tgt := 15) hx hb dX8_in_11 (by decide) ?_
      exact w_X8_in_15 hm hR 1 hf _ _ _ hS (lv_sub hl [] rfl)
theorem hd_X8_in : yX8_in.cls ≠ "java/lang/invoke/MethodHandle" ∧ yX8_in.cls ≠ "java/lang/invoke/VarHandle" ∧ (parseMethodDescriptor yX8_in.desc).map (fun d => d.parameters.length) = some 3 := by decide +kernel
set_option maxHeartbeats 4000000 in
set_option maxRecDepth 100000 in
theorem c_X8_in (l : Launch) (v0 : Int32) (v1 : Int32) (v2 : Int32) {res : Int32} (hf : p_X8_in_0 v0 v1 v2 = some res) : Met l yX8_in wsX8_in ({ frames := 0, cells := 0, slots := 0, locals := 0 } : Room) (va_Pc [.int v0, .int v1, .int v2] (fun _ => True)) (va_Qi (fun (r : Int32) (_ : Unit) => r = res) (fun _ _ => True) (fun _ => False)) 0 0 (fun _ => False) := by
  refine Met.ofW (cc := cX8_in) (maxL := 3) (ret := (some .boolean)) (by decide) rfl ?_
  intro p e s m args below meth c s₁ B hml hv
  obtain ⟨rfl, -⟩ := hv
  have hm : mx p s m _ meth c cX8_in 3 (some .boolean) wsX8_in RX8 := ⟨B.exec, B.bytes, B.returns, hml, findClass_of_methodNamed B.named, atoms_spec (ws := wsX8_in) B.pre, B.notSynchronized⟩
  have hl := lv_entry ([.int v0, .int v1, .int v2]) (n := 3) (Nat.le_of_ble_eq_true rfl)
  rw [lg_entry_eq]
  generalize (lg_sl ([.int v0, .int v1, .int v2]) ++ List.replicate (3 - (lg_sl ([.int v0, .int v1, .int v2])).length) Slot.unset).toArray = ls at hl ⊢
  exact w_X8_in_0 hm ⟨Nat.le_refl _, Nat.le_refl _⟩ v0 v1 v2 hf _ _ _ va_S.rf hl
/-! CallGraphsModel.isType(I)Z -/
theorem in_X8_isType_X8 : ∀ w ∈ u_ws RX8 TX8 50, w ∈ wsX8_isType := fun w h => List.mem_cons_of_mem _ (List.mem_append_right _ h)
def p_X8_isType_0 (σ : SS) (v1 : Int32) : Option (Int32) := oc (p_X8_in_0 v1 0 ((σ.1 0 0) - 1)) (fun r_8 => ob r_8 (some r_8))
set_option maxHeartbeats 4000000 in
set_option maxRecDepth 100000 in
theorem w_X8_isType_0 {p : Program} {l : Launch} {e : Env} {R : Room} {s : State} {m : MethodId} {args : Array Value} {below : List Frame} {meth : Method} {c : Code} {D : va_G} {ad : Nat → Nat} {cI cJ cZ : ClassId} {res : Int32} (hm : mx p s m args meth c cX8_isType 2 (some .boolean) wsX8_isType RX8) (hR : 1 ≤ R.frames ∧ 22 ≤ R.locals) (hK : va_K D vwCl (tyw cI cJ cZ) s) (hD : ∀ σ, va_D (aM ad) (wM ad cI cJ cZ σ)) (σ : SS) (v1 : Int32) (hf : p_X8_isType_0 σ v1 = some res) (H : Heap) (locs : List Loc) (ls : Array Slot) (hP : va_P D vwCl (wM ad cI cJ cZ σ) H) (hS : va_S (aM ad) s.heap H locs) (hl : lv_has ls 2 [(0, .ref (ad 0)), (1, .int v1)]) : W p l e R s m args below meth c H locs 0 0 (MQ below (va_Qi (fun (r : Int32) (u : SS) => r = res ∧ u = σ) (fun u t => va_P D vwCl (wM ad cI cJ cZ u) t.heap) (aM ad)) args s 0 0 (aM ad)) (F0 m 0 ls []) := by
  obtain ⟨hx, hb, hr, hml, hown, hts, hlk⟩ := id hm
  unfold p_X8_isType_0 at hf
  refine lv_iload_n hx hb dX8_isType_0 rfl (lv_at hl 1 rfl) ?_
  refine lv_iconst (v := 0) hx hb dX8_isType_1 (by decide) ?_
  refine lv_aload_n hx hb dX8_isType_2 rfl (lv_at hl 0 rfl) ?_
  refine va_get (D := D) (ci := 7) (v := .int (σ.1 0 0)) (C := RX8) (T := TX8) (N := 50) hx hb hts in_X8_isType_X8 hown hK hP 0 (wM_0 _ _ _ _ _) rfl 0 (by decide) (hts (.fieldLink RX8 123 "CallGraphsModel" "types" "I") (List.mem_of_getElem? (i := 1) rfl)) (fun _ h9 => h9) (fM_0_0 _ _) dX8_isType_3 ?_
  refine lv_iconst (v := 1) hx hb dX8_isType_6 (by decide) ?_
  refine lv_isub hx hb dX8_isType_7 ?_
  obtain ⟨r_8, hg_8, hf⟩ := oc_e hf
  refine mS_i (D := D) (As := [.int v1, .int 0, .int ((σ.1 0 0) - 1)]) (rest := []) ⟨hx, hb, hml, hown, hts⟩ hP hS (c_X8_in l v1 0 ((σ.1 0 0) - 1) hg_8) (va_cwS 3 hts gX8_isType_X8_in rfl rfl rfl hd_X8_in ⟨Nat.le_trans (Nat.le_of_ble_eq_true rfl) hR.1, Nat.le_trans (Nat.le_of_ble_eq_true rfl) hR.2⟩) rfl hl.1 rfl (Nat.le_of_ble_eq_true rfl) dX8_isType_8 (fun H locs hP hS => ?_)
  obtain ⟨h_11, hf⟩ := ob_e hf
  exact rt_z (wd := wM ad cI cJ cZ) hx hb hr hlk h_11 ⟨Option.some.inj hf, rfl⟩ hP hS dX8_isType_11
theorem hd_X8_isType : yX8_isType.cls = RX8 ∧ yX8_isType.cls ≠ "java/lang/invoke/MethodHandle" ∧ yX8_isType.cls ≠ "java/lang/invoke/VarHandle" ∧ (parseMethodDescriptor yX8_isType.desc).map (fun d => d.parameters.length) = some 1 := by decide +kernel
set_option maxHeartbeats 4000000 in
set_option maxRecDepth 100000 in
theorem c_X8_isType (l : Launch) (D : va_G) (ad : Nat → Nat) (cI cJ cZ : ClassId) (σ : SS) (v1 : Int32) {res : Int32} (hf : p_X8_isType_0 σ v1 = some res) : Met l yX8_isType wsX8_isType ({ frames := 1, cells := 0, slots := 0, locals := 22 } : Room) (PW D (tyw cI cJ cZ) (wM ad cI cJ cZ σ) [.ref (ad 0), .int v1]) (va_Qi (fun (r : Int32) (u : SS) => r = res ∧ u = σ) (fun u t => va_P D vwCl (wM ad cI cJ cZ u) t.heap) (aM ad)) 0 0 (aM ad) := by
  refine Met.ofW (cc := cX8_isType) (maxL := 2) (ret := (some .boolean)) (by decide) rfl ?_
  intro p e s m args below meth c s₁ B hml hv
  obtain ⟨rfl, hP, hK, hD0⟩ := hv
  have hD : ∀ σ, va_D (aM ad) (wM ad cI cJ cZ σ) := fun σ => wd_D hD0 (wM_map _ _ _ _ _) (wM_map _ _ _ _ _)
  have hm : mx p s m _ meth c cX8_isType 2 (some .boolean) wsX8_isType RX8 := ⟨B.exec, B.bytes, B.returns, hml, findClass_of_methodNamed B.named, atoms_spec (ws := wsX8_isType) B.pre, B.notSynchronized⟩
  have hl := lv_entry ([.ref (ad 0), .int v1]) (n := 2) (Nat.le_of_ble_eq_true rfl)
  rw [lg_entry_eq]
  generalize (lg_sl ([.ref (ad 0), .int v1]) ++ List.replicate (2 - (lg_sl ([.ref (ad 0), .int v1])).length) Slot.unset).toArray = ls at hl ⊢
  exact w_X8_isType_0 hm ⟨Nat.le_refl _, Nat.le_refl _⟩ hK hD σ v1 hf _ _ _ hP va_S.rf hl
/-! CallGraphsModel.isMember(I)Z -/
theorem in_X8_isMember_X8 : ∀ w ∈ u_ws RX8 TX8 50, w ∈ wsX8_isMember := fun w h => List.mem_cons_of_mem _ (List.mem_append_right _ h)
def p_X8_isMember_0 (σ : SS) (v1 : Int32) : Option (Int32) := oc (p_X8_in_0 v1 0 ((σ.1 0 5) - 1)) (fun r_8 => ob r_8 (some r_8))
set_option maxHeartbeats 4000000 in
set_option maxRecDepth 100000 in
theorem w_X8_isMember_0 {p : Program} {l : Launch} {e : Env} {R : Room} {s : State} {m : MethodId} {args : Array Value} {below : List Frame} {meth : Method} {c : Code} {D : va_G} {ad : Nat → Nat} {cI cJ cZ : ClassId} {res : Int32} (hm : mx p s m args meth c cX8_isMember 2 (some .boolean) wsX8_isMember RX8) (hR : 1 ≤ R.frames ∧ 22 ≤ R.locals) (hK : va_K D vwCl (tyw cI cJ cZ) s) (hD : ∀ σ, va_D (aM ad) (wM ad cI cJ cZ σ)) (σ : SS) (v1 : Int32) (hf : p_X8_isMember_0 σ v1 = some res) (H : Heap) (locs : List Loc) (ls : Array Slot) (hP : va_P D vwCl (wM ad cI cJ cZ σ) H) (hS : va_S (aM ad) s.heap H locs) (hl : lv_has ls 2 [(0, .ref (ad 0)), (1, .int v1)]) : W p l e R s m args below meth c H locs 0 0 (MQ below (va_Qi (fun (r : Int32) (u : SS) => r = res ∧ u = σ) (fun u t => va_P D vwCl (wM ad cI cJ cZ u) t.heap) (aM ad)) args s 0 0 (aM ad)) (F0 m 0 ls []) := by
  obtain ⟨hx, hb, hr, hml, hown, hts, hlk⟩ := id hm
  unfold p_X8_isMember_0 at hf
  refine lv_iload_n hx hb dX8_isMember_0 rfl (lv_at hl 1 rfl) ?_
  refine lv_iconst (v := 0) hx hb dX8_isMember_1 (by decide) ?_
  refine lv_aload_n hx hb dX8_isMember_2 rfl (lv_at hl 0 rfl) ?_
  refine va_get (D := D) (ci := 7) (v := .int (σ.1 0 5)) (C := RX8) (T := TX8) (N := 50) hx hb hts in_X8_isMember_X8 hown hK hP 0 (wM_0 _ _ _ _ _) rfl 5 (by decide) (hts (.fieldLink RX8 131 "CallGraphsModel" "members" "I") (List.mem_of_getElem? (i := 1) rfl)) (fun _ h9 => h9) (fM_0_5 _ _) dX8_isMember_3 ?_
  refine lv_iconst (v := 1) hx hb dX8_isMember_6 (by decide) ?_
  refine lv_isub hx hb dX8_isMember_7 ?_
  obtain ⟨r_8, hg_8, hf⟩ := oc_e hf
  refine mS_i (D := D) (As := [.int v1, .int 0, .int ((σ.1 0 5) - 1)]) (rest := []) ⟨hx, hb, hml, hown, hts⟩ hP hS (c_X8_in l v1 0 ((σ.1 0 5) - 1) hg_8) (va_cwS 3 hts gX8_isMember_X8_in rfl rfl rfl hd_X8_in ⟨Nat.le_trans (Nat.le_of_ble_eq_true rfl) hR.1, Nat.le_trans (Nat.le_of_ble_eq_true rfl) hR.2⟩) rfl hl.1 rfl (Nat.le_of_ble_eq_true rfl) dX8_isMember_8 (fun H locs hP hS => ?_)
  obtain ⟨h_11, hf⟩ := ob_e hf
  exact rt_z (wd := wM ad cI cJ cZ) hx hb hr hlk h_11 ⟨Option.some.inj hf, rfl⟩ hP hS dX8_isMember_11
theorem hd_X8_isMember : yX8_isMember.cls = RX8 ∧ yX8_isMember.cls ≠ "java/lang/invoke/MethodHandle" ∧ yX8_isMember.cls ≠ "java/lang/invoke/VarHandle" ∧ (parseMethodDescriptor yX8_isMember.desc).map (fun d => d.parameters.length) = some 1 := by decide +kernel
set_option maxHeartbeats 4000000 in
set_option maxRecDepth 100000 in
theorem c_X8_isMember (l : Launch) (D : va_G) (ad : Nat → Nat) (cI cJ cZ : ClassId) (σ : SS) (v1 : Int32) {res : Int32} (hf : p_X8_isMember_0 σ v1 = some res) : Met l yX8_isMember wsX8_isMember ({ frames := 1, cells := 0, slots := 0, locals := 22 } : Room) (PW D (tyw cI cJ cZ) (wM ad cI cJ cZ σ) [.ref (ad 0), .int v1]) (va_Qi (fun (r : Int32) (u : SS) => r = res ∧ u = σ) (fun u t => va_P D vwCl (wM ad cI cJ cZ u) t.heap) (aM ad)) 0 0 (aM ad) := by
  refine Met.ofW (cc := cX8_isMember) (maxL := 2) (ret := (some .boolean)) (by decide) rfl ?_
  intro p e s m args below meth c s₁ B hml hv
  obtain ⟨rfl, hP, hK, hD0⟩ := hv
  have hD : ∀ σ, va_D (aM ad) (wM ad cI cJ cZ σ) := fun σ => wd_D hD0 (wM_map _ _ _ _ _) (wM_map _ _ _ _ _)
  have hm : mx p s m _ meth c cX8_isMember 2 (some .boolean) wsX8_isMember RX8 := ⟨B.exec, B.bytes, B.returns, hml, findClass_of_methodNamed B.named, atoms_spec (ws := wsX8_isMember) B.pre, B.notSynchronized⟩
  have hl := lv_entry ([.ref (ad 0), .int v1]) (n := 2) (Nat.le_of_ble_eq_true rfl)
  rw [lg_entry_eq]
  generalize (lg_sl ([.ref (ad 0), .int v1]) ++ List.replicate (2 - (lg_sl ([.ref (ad 0), .int v1])).length) Slot.unset).toArray = ls at hl ⊢
  exact w_X8_isMember_0 hm ⟨Nat.le_refl _, Nat.le_refl _⟩ hK hD σ v1 hf _ _ _ hP va_S.rf hl
/-! CallGraphsModel.lookUp(I)V -/
theorem in_X8_lookUp_X8 : ∀ w ∈ u_ws RX8 TX8 50, w ∈ wsX8_lookUp := fun w h => List.mem_cons_of_mem _ (List.mem_append_right _ h)
def p_X8_lookUp_23 (k2 : Int32 → Int32 → SS → Option (SS)) (v1 : Int32) (v2 : Int32) (t0 : Int32) (t1 : Int32) (σ : SS) : Option (SS) := oi t1 16 (ob t0 (os (sI σ 20 (t1.toNatClampNeg) t0) (fun s_23 => k2 v1 (v2 + 1) s_23)))
set_option maxHeartbeats 4000000 in
set_option maxRecDepth 100000 in
theorem w_X8_lookUp_23 {p : Program} {l : Launch} {e : Env} {R : Room} {s : State} {m : MethodId} {args : Array Value} {below : List Frame} {meth : Method} {c : Code} {D : va_G} {ad : Nat → Nat} {cI cJ cZ : ClassId} {res : SS} (hm : mx p s m args meth c cX8_lookUp 4 none wsX8_lookUp RX8) (hR : 0 ≤ R.frames ∧ 0 ≤ R.locals) (hK : va_K D vwCl (tyw cI cJ cZ) s) (hD : ∀ σ, va_D (aM ad) (wM ad cI cJ cZ σ)) (k2 : Int32 → Int32 → SS → Option (SS)) (hk2 : ∀ (v1 : Int32) (v2 : Int32) (σ : SS), k2 v1 v2 σ = some res → ∀ (H : Heap) (locs : List Loc) (ls : Array Slot), va_P D vwCl (wM ad cI cJ cZ σ) H → va_S (aM ad) s.heap H locs → lv_has ls 4 [(0, .ref (ad 0)), (1, .int v1), (2, .int v2)] → W p l e R s m args below meth c H locs 0 0 (MQ below (va_Qv (fun (u : SS) => u = res) (fun u t => va_P D vwCl (wM ad cI cJ cZ u) t.heap) (aM ad)) args s 0 0 (aM ad)) (F0 m 2 ls [])) (v1 : Int32) (v2 : Int32) (t0 : Int32) (t1 : Int32) (σ : SS) (hf : p_X8_lookUp_23 k2 v1 v2 t0 t1 σ = some res) (H : Heap) (locs : List Loc) (ls : Array Slot) (hP : va_P D vwCl (wM ad cI cJ cZ σ) H) (hS : va_S (aM ad) s.heap H locs) (hl : lv_has ls 4 [(0, .ref (ad 0)), (1, .int v1), (2, .int v2)]) : W p l e R s m args below meth c H locs 0 0 (MQ below (va_Qv (fun (u : SS) => u = res) (fun u t => va_P D vwCl (wM ad cI cJ cZ u) t.heap) (aM ad)) args s 0 0 (aM ad)) (F0 m 23 ls [.int t0, .int t1, .ref (ad 20)]) := by
  obtain ⟨hx, hb, hr, hml, hown, hts, hlk⟩ := id hm
  unfold p_X8_lookUp_23 at hf
  obtain ⟨h_23, hf⟩ := oi_e hf
  obtain ⟨hb_23, hf⟩ := ob_e hf
  refine va_zast hx hb hK hP (hD _) hS 20 2 (wM_20 _ _ _ _ _) rfl h_23 dX8_lookUp_23 (fun H locs hP _ hS => ?_)
  rw [nb_a hb_23] at hP
  have hP := wM_s20 hP
  obtain ⟨s_23, es_23, hf⟩ := os_e hf
  rw [← es_23] at hP
  refine lv_iinc (v := (v2 + 1)) (lv' := [(2, .int (v2 + 1)), (0, .ref (ad 0)), (1, .int v1)]) hx hb dX8_lookUp_24 hl (k := 2) rfl rfl (by decide) rfl (fun ls hl => ?_)
  refine lv_goto (tgt := 2) hx hb dX8_lookUp_27 (by decide) ?_
  exact hk2 v1 (v2 + 1) s_23 hf _ _ _ hP hS (lv_sub hl [1, 2, 0] rfl)
def p_X8_lookUp_110 (k32 : Int32 → SS → Option (SS)) (v2 : Int32) (σ : SS) : Option (SS) := k32 (v2 + (-1)) σ
set_option maxHeartbeats 4000000 in
set_option maxRecDepth 100000 in
theorem w_X8_lookUp_110 {p : Program} {l : Launch} {e : Env} {R : Room} {s : State} {m : MethodId} {args : Array Value} {below : List Frame} {meth : Method} {c : Code} {D : va_G} {ad : Nat → Nat} {cI cJ cZ : ClassId} {res : SS} (hm : mx p s m args meth c cX8_lookUp 4 none wsX8_lookUp RX8) (hR : 0 ≤ R.frames ∧ 0 ≤ R.locals) (hK : va_K D vwCl (tyw cI cJ cZ) s) (hD : ∀ σ, va_D (aM ad) (wM ad cI cJ cZ σ)) (k32 : Int32 → SS → Option (SS)) (hk32 : ∀ (v2 : Int32) (σ : SS), k32 v2 σ = some res → ∀ (H : Heap) (locs : List Loc) (ls : Array Slot), va_P D vwCl (wM ad cI cJ cZ σ) H → va_S (aM ad) s.heap H locs → lv_has ls 4 [(0, .ref (ad 0)), (2, .int v2)] → W p l e R s m args below meth c H locs 0 0 (MQ below (va_Qv (fun (u : SS) => u = res) (fun u t => va_P D vwCl (wM ad cI cJ cZ u) t.heap) (aM ad)) args s 0 0 (aM ad)) (F0 m 32 ls [])) (v2 : Int32) (σ : SS) (hf : p_X8_lookUp_110 k32 v2 σ = some res) (H : Heap) (locs : List Loc) (ls : Array Slot) (hP : va_P D vwCl (wM ad cI cJ cZ σ) H) (hS : va_S (aM ad) s.heap H locs) (hl : lv_has ls 4 [(0, .ref (ad 0)), (2, .int v2)]) : W p l e R s m args below meth c H locs 0 0 (MQ below (va_Qv (fun (u : SS) => u = res) (fun u t => va_P D vwCl (wM ad cI cJ cZ u) t.heap) (aM ad)) args s 0 0 (aM ad)) (F0 m 110 ls []) := by
  obtain ⟨hx, hb, hr, hml, hown, hts, hlk⟩ := id hm
  unfold p_X8_lookUp_110 at hf
  refine lv_iinc (v := (v2 + (-1))) (lv' := [(2, .int (v2 + (-1))), (0, .ref (ad 0))]) hx hb dX8_lookUp_110 hl (k := 1) rfl rfl (by decide) rfl (fun ls hl => ?_)
  refine lv_goto (tgt := 32) hx hb dX8_lookUp_113 (by decide) ?_
  exact hk32 (v2 + (-1)) σ hf _ _ _ hP hS (lv_sub hl [1, 0] rfl)
def p_X8_lookUp_69 (k32 : Int32 → SS → Option (SS)) : Nat → Int32 → Int32 → SS → Option (SS)
  | 0, _, _, _ => none
  | n + 1, v2, v3, σ => let k69 := p_X8_lookUp_69 k32 n; oi v2 16 (if (σ.1 3 v2.toNatClampNeg) ≤ v3 then p_X8_lookUp_110 k32 v2 σ else oi v2 16 (if (σ.1 20 v2.toNatClampNeg) = 0 then p_X8_lookUp_110 k32 v2 σ else oi ((3 * v2) + v3) 48 (oi (σ.1 4 ((3 * v2) + v3).toNatClampNeg) 16 (os (sI σ 20 ((σ.1 4 ((3 * v2) + v3).toNatClampNeg).toNatClampNeg) 1) (fun s_103 => k69 v2 (v3 + 1) s_103)))))
set_option maxHeartbeats 4000000 in
set_option maxRecDepth 100000 in
theorem w_X8_lookUp_69 {p : Program} {l : Launch} {e : Env} {R : Room} {s : State} {m : MethodId} {args : Array Value} {below : List Frame} {meth : Method} {c : Code} {D : va_G} {ad : Nat → Nat} {cI cJ cZ : ClassId} {res : SS} (hm : mx p s m args meth c cX8_lookUp 4 none wsX8_lookUp RX8) (hR : 0 ≤ R.frames ∧ 0 ≤ R.locals) (hK : va_K D vwCl (tyw cI cJ cZ) s) (hD : ∀ σ, va_D (aM ad) (wM ad cI cJ cZ σ)) (k32 : Int32 → SS → Option (SS)) (hk32 : ∀ (v2 : Int32) (σ : SS), k32 v2 σ = some res → ∀ (H : Heap) (locs : List Loc) (ls : Array Slot), va_P D vwCl (wM ad cI cJ cZ σ) H → va_S (aM ad) s.heap H locs → lv_has ls 4 [(0, .ref (ad 0)), (2, .int v2)] → W p l e R s m args below meth c H locs 0 0 (MQ below (va_Qv (fun (u : SS) => u = res) (fun u t => va_P D vwCl (wM ad cI cJ cZ u) t.heap) (aM ad)) args s 0 0 (aM ad)) (F0 m 32 ls [])) : ∀ (n : Nat) (v2 : Int32) (v3 : Int32) (σ : SS), p_X8_lookUp_69 k32 n v2 v3 σ = some res → ∀ (H : Heap) (locs : List Loc) (ls : Array Slot), va_P D vwCl (wM ad cI cJ cZ σ) H → va_S (aM ad) s.heap H locs → lv_has ls 4 [(0, .ref (ad 0)), (2, .int v2), (3, .int v3)] → W p l e R s m args below meth c H locs 0 0 (MQ below (va_Qv (fun (u : SS) => u = res) (fun u t => va_P D vwCl (wM ad cI cJ cZ u) t.heap) (aM ad)) args s 0 0 (aM ad)) (F0 m 69 ls []) := by
  obtain ⟨hx, hb, hr, hml, hown, hts, hlk⟩ := id hm
  intro n
  induction n with
  | zero =>
    intro _ _ _ hf
    cases hf
  | succ n hk69 =>
    intro v2 v3 σ hf H locs ls hP hS hl
    rw [p_X8_lookUp_69] at hf
    try dsimp only at hf
    refine lv_iload_n hx hb dX8_lookUp_69 rfl (lv_at hl 2 rfl) ?_
    refine lv_aload_n hx hb dX8_lookUp_70 rfl (lv_at hl 0 rfl) ?_
    refine va_get (D := D) (ci := 7) (v := .ref (ad 3)) (C := RX8) (T := TX8) (N := 50) hx hb hts in_X8_lookUp_X8 hown hK hP 0 (wM_0 _ _ _ _ _) rfl 3 (by decide) (hts (.fieldLink RX8 16 "CallGraphsModel" "faceMany" "[I") (List.mem_of_getElem? (i := 3) rfl)) (fun _ h9 => h9) (fM_0_3 _ _) dX8_lookUp_71 ?_
    refine lv_iload_n hx hb dX8_lookUp_74 rfl (lv_at hl 1 rfl) ?_
    obtain ⟨h_75, hf⟩ := oi_e hf
    refine va_iald hx hb hK hP 3 0 (wM_3 _ _ _ _ _) rfl h_75 dX8_lookUp_75 ?_
    refine lv_icmp_ge (tgt := 110) hx hb dX8_lookUp_76 (by decide) (fun c_76 => ?_) (fun c_76 => ?_)
    · rw [if_pos c_76] at hf
      exact w_X8_lookUp_110 hm hR hK hD k32 hk32 v2 σ hf _ _ _ hP hS (lv_sub hl [0, 1] rfl)
    · rw [if_neg c_76] at hf
      refine lv_aload_n hx hb dX8_lookUp_79 rfl (lv_at hl 0 rfl) ?_
      refine va_get (D := D) (ci := 7) (v := .ref (ad 20)) (C := RX8) (T := TX8) (N := 50) hx hb hts in_X8_lookUp_X8 hown hK hP 0 (wM_0 _ _ _ _ _) rfl 24 (by decide) (hts (.fieldLink RX8 68 "CallGraphsModel" "above" "[Z") (List.mem_of_getElem? (i := 1) rfl)) (fun _ h9 => h9) (fM_0_24 _ _) dX8_lookUp_80 ?_
      refine lv_iload_n hx hb dX8_lookUp_83 rfl (lv_at hl 1 rfl) ?_
      obtain ⟨h_84, hf⟩ := oi_e hf
      refine va_zald hx hb hK hP 20 2 (wM_20 _ _ _ _ _) rfl h_84 dX8_lookUp_84 ?_
      refine lv_if_eq (tgt := 110) hx hb dX8_lookUp_85 (by decide) (fun c_85 => ?_) (fun c_85 => ?_)
      · rw [if_pos c_85] at hf
        exact w_X8_lookUp_110 hm hR hK hD k32 hk32 v2 σ hf _ _ _ hP hS (lv_sub hl [0, 1] rfl)
      · rw [if_neg c_85] at hf
        refine lv_aload_n hx hb dX8_lookUp_88 rfl (lv_at hl 0 rfl) ?_
        refine va_get (D := D) (ci := 7) (v := .ref (ad 20)) (C := RX8) (T := TX8) (N := 50) hx hb hts in_X8_lookUp_X8 hown hK hP 0 (wM_0 _ _ _ _ _) rfl 24 (by decide) (hts (.fieldLink RX8 68 "CallGraphsModel" "above" "[Z") (List.mem_of_getElem? (i := 1) rfl)) (fun _ h9 => h9) (fM_0_24 _ _) dX8_lookUp_89 ?_
        refine lv_aload_n hx hb dX8_lookUp_92 rfl (lv_at hl 0 rfl) ?_
        refine va_get (D := D) (ci := 7) (v := .ref (ad 4)) (C := RX8) (T := TX8) (N := 50) hx hb hts in_X8_lookUp_X8 hown hK hP 0 (wM_0 _ _ _ _ _) rfl 4 (by decide) (hts (.fieldLink RX8 19 "CallGraphsModel" "faceOf" "[I") (List.mem_of_getElem? (i := 4) rfl)) (fun _ h9 => h9) (fM_0_4 _ _) dX8_lookUp_93 ?_
        refine lv_iconst (v := 3) hx hb dX8_lookUp_96 (by decide) ?_
        refine lv_iload_n hx hb dX8_lookUp_97 rfl (lv_at hl 1 rfl) ?_
        refine lv_imul hx hb dX8_lookUp_98 ?_
        refine lv_iload_n hx hb dX8_lookUp_99 rfl (lv_at hl 2 rfl) ?_
        refine lv_iadd hx hb dX8_lookUp_100 ?_
        obtain ⟨h_101, hf⟩ := oi_e hf
        refine va_iald hx hb hK hP 4 0 (wM_4 _ _ _ _ _) rfl h_101 dX8_lookUp_101 ?_
        refine lv_iconst (v := 1) hx hb dX8_lookUp_102 (by decide) ?_
        obtain ⟨h_103, hf⟩ := oi_e hf
        refine va_zast hx hb hK hP (hD _) hS 20 2 (wM_20 _ _ _ _ _) rfl h_103 dX8_lookUp_103 (fun H locs hP _ hS => ?_)
        rw [nb_a (Or.inr rfl)] at hP
        have hP := wM_s20 hP
        obtain ⟨s_103, es_103, hf⟩ := os_e hf
        rw [← es_103] at hP
        refine lv_iinc (v := (v3 + 1)) (lv' := [(3, .int (v3 + 1)), (0, .ref (ad 0)), (2, .int v2)]) hx hb dX8_lookUp_104 hl (k := 2) rfl rfl (by decide) rfl (fun ls hl => ?_)
        refine lv_goto (tgt := 69) hx hb dX8_lookUp_107 (by decide) ?_
        exact hk69 v2 (v3 + 1) s_103 hf _ _ _ hP hS (lv_sub hl [1, 2, 0] rfl)
def p_X8_lookUp_67 (k32 : Int32 → SS → Option (SS)) (v2 : Int32) (σ : SS) : Option (SS) := p_X8_lookUp_69 k32 100000 v2 0 σ
set_option maxHeartbeats 4000000 in
set_option maxRecDepth 100000 in
theorem w_X8_lookUp_67 {p : Program} {l : Launch} {e : Env} {R : Room} {s : State} {m : MethodId} {args : Array Value} {below : List Frame} {meth : Method} {c : Code} {D : va_G} {ad : Nat → Nat} {cI cJ cZ : ClassId} {res : SS} (hm : mx p s m args meth c cX8_lookUp 4 none wsX8_lookUp RX8) (hR : 0 ≤ R.frames ∧ 0 ≤ R.locals) (hK : va_K D vwCl (tyw cI cJ cZ) s) (hD : ∀ σ, va_D (aM ad) (wM ad cI cJ cZ σ)) (k32 : Int32 → SS → Option (SS)) (hk32 : ∀ (v2 : Int32) (σ : SS), k32 v2 σ = some res → ∀ (H : Heap) (locs : List Loc) (ls : Array Slot), va_P D vwCl (wM ad cI cJ cZ σ) H → va_S (aM ad) s.heap H locs → lv_has ls 4 [(0, .ref (ad 0)), (2, .int v2)] → W p l e R s m args below meth c H locs 0 0 (MQ below (va_Qv (fun (u : SS) => u = res) (fun u t => va_P D vwCl (wM ad cI cJ cZ u) t.heap) (aM ad)) args s 0 0 (aM ad)) (F0 m 32 ls [])) (v2 : Int32) (σ : SS) (hf : p_X8_lookUp_67 k32 v2 σ = some res) (H : Heap) (locs : List Loc) (ls : Array Slot) (hP : va_P D vwCl (wM ad cI cJ cZ σ) H) (hS : va_S (aM ad) s.heap H locs) (hl : lv_has ls 4 [(0, .ref (ad 0)), (2, .int v2)]) : W p l e R s m args below meth c H locs 0 0 (MQ below (va_Qv (fun (u : SS) => u = res) (fun u t => va_P D vwCl (wM ad cI cJ cZ u) t.heap) (aM ad)) args s 0 0 (aM ad)) (F0 m 67 ls []) := by
  obtain ⟨hx, hb, hr, hml, hown, hts, hlk⟩ := id hm
  unfold p_X8_lookUp_67 at hf
  refine lv_iconst (v := 0) hx hb dX8_lookUp_67 (by decide) ?_
  refine lv_istore_n (lv' := [(3, .int 0), (0, .ref (ad 0)), (2, .int v2)]) hx hb dX8_lookUp_68 rfl hl (by decide) rfl (fun ls hl => ?_)
  exact w_X8_lookUp_69 hm hR hK hD k32 hk32 100000 v2 0 σ hf _ _ _ hP hS (lv_sub hl [1, 2, 0] rfl)
def p_X8_lookUp_32 : Nat → Int32 → SS → Option (SS)
  | 0, _, _ => none
  | n + 1, v2, σ => let k32 := p_X8_lookUp_32 n; if v2 < 0 then some σ else oi v2 16 (if (σ.1 20 v2.toNatClampNeg) = 0 then p_X8_lookUp_67 k32 v2 σ else oi v2 16 (if (σ.1 2 v2.toNatClampNeg) = (-1) then p_X8_lookUp_67 k32 v2 σ else oi v2 16 (oi (σ.1 2 v2.toNatClampNeg) 16 (os (sI σ 20 ((σ.1 2 v2.toNatClampNeg).toNatClampNeg) 1) (fun s_66 => p_X8_lookUp_67 k32 v2 s_66)))))
set_option maxHeartbeats 4000000 in
set_option maxRecDepth 100000 in
theorem w_X8_lookUp_32 {p : Program} {l : Launch} {e : Env} {R : Room} {s : State} {m : MethodId} {args : Array Value} {below : List Frame} {meth : Method} {c : Code} {D : va_G} {ad : Nat → Nat} {cI cJ cZ : ClassId} {res : SS} (hm : mx p s m args meth c cX8_lookUp 4 none wsX8_lookUp RX8) (hR : 0 ≤ R.frames ∧ 0 ≤ R.locals) (hK : va_K D vwCl (tyw cI cJ cZ) s) (hD : ∀ σ, va_D (aM ad) (wM ad cI cJ cZ σ)) : ∀ (n : Nat) (v2 : Int32) (σ : SS), p_X8_lookUp_32 n v2 σ = some res → ∀ (H : Heap) (locs : List Loc) (ls : Array Slot), va_P D vwCl (wM ad cI cJ cZ σ) H → va_S (aM ad) s.heap H locs → lv_has ls 4 [(0, .ref (ad 0)), (2, .int v2)] → W p l e R s m args below meth c H locs 0 0 (MQ below (va_Qv (fun (u : SS) => u = res) (fun u t => va_P D vwCl (wM ad cI cJ cZ u) t.heap) (aM ad)) args s 0 0 (aM ad)) (F0 m 32 ls []) := by
  obtain ⟨hx, hb, hr, hml, hown, hts, hlk⟩ := id hm
  intro n
  induction n with
  | zero =>
    intro _ _ hf
    cases hf
  | succ n hk32 =>
    intro v2 σ hf H locs ls hP hS hl
    rw [p_X8_lookUp_32] at hf
    try dsimp only at hf
    refine lv_iload_n hx hb dX8_lookUp_32 rfl (lv_at hl 1 rfl) ?_
    refine lv_if_lt (tgt := 116) hx hb dX8_lookUp_33 (by decide) (fun c_33 => ?_) (fun c_33 => ?_)
    · rw [if_pos c_33] at hf
      exact rt_v (wd := wM ad cI cJ cZ) hx hb hr hlk (Option.some.inj hf) hP hS dX8_lookUp_116
    · rw [if_neg c_33] at hf
      refine lv_aload_n hx hb dX8_lookUp_36 rfl (lv_at hl 0 rfl) ?_
      refine va_get (D := D) (ci := 7) (v := .ref (ad 20)) (C := RX8) (T := TX8) (N := 50) hx hb hts in_X8_lookUp_X8 hown hK hP 0 (wM_0 _ _ _ _ _) rfl 24 (by decide) (hts (.fieldLink RX8 68 "CallGraphsModel" "above" "[Z") (List.mem_of_getElem? (i := 1) rfl)) (fun _ h9 => h9) (fM_0_24 _ _) dX8_lookUp_37 ?_
      refine lv_iload_n hx hb dX8_lookUp_40 rfl (lv_at hl 1 rfl) ?_
      obtain ⟨h_41, hf⟩ := oi_e hf
      refine va_zald hx hb hK hP 20 2 (wM_20 _ _ _ _ _) rfl h_41 dX8_lookUp_41 ?_
      refine lv_if_eq (tgt := 67) hx hb dX8_lookUp_42 (by decide) (fun c_42 => ?_) (fun c_42 => ?_)
      · rw [if_pos c_42] at hf
        exact w_X8_lookUp_67 hm hR hK hD (p_X8_lookUp_32 n) hk32 v2 σ hf _ _ _ hP hS (lv_sub hl [0, 1] rfl)
      · rw [if_neg c_42] at hf
        refine lv_aload_n hx hb dX8_lookUp_45 rfl (lv_at hl 0 rfl) ?_
        refine va_get (D := D) (ci := 7) (v := .ref (ad 2)) (C := RX8) (T := TX8) (N := 50) hx hb hts in_X8_lookUp_X8 hown hK hP 0 (wM_0 _ _ _ _ _) rfl 2 (by decide) (hts (.fieldLink RX8 13 "CallGraphsModel" "superOf" "[I") (List.mem_of_getElem? (i := 2) rfl)) (fun _ h9 => h9) (fM_0_2 _ _) dX8_lookUp_46 ?_
        refine lv_iload_n hx hb dX8_lookUp_49 rfl (lv_at hl 1 rfl) ?_
        obtain ⟨h_50, hf⟩ := oi_e hf
        refine va_iald hx hb hK hP 2 0 (wM_2 _ _ _ _ _) rfl h_50 dX8_lookUp_50 ?_
        refine lv_iconst (v := (-1)) hx hb dX8_lookUp_51 (by decide) ?_
        refine lv_icmp_eq (tgt := 67) hx hb dX8_lookUp_52 (by decide) (fun c_52 => ?_) (fun c_52 => ?_)
        · rw [if_pos c_52] at hf
          exact w_X8_lookUp_67 hm hR hK hD (p_X8_lookUp_32 n) hk32 v2 σ hf _ _ _ hP hS (lv_sub hl [0, 1] rfl)
        · rw [if_neg c_52] at hf
          refine lv_aload_n hx hb dX8_lookUp_55 rfl (lv_at hl 0 rfl) ?_
          refine va_get (D := D) (ci := 7) (v := .ref (ad 20)) (C := RX8) (T := TX8) (N := 50) hx hb hts in_X8_lookUp_X8 hown hK hP 0 (wM_0 _ _ _ _ _) rfl 24 (by decide) (hts (.fieldLink RX8 68 "CallGraphsModel" "above" "[Z") (List.mem_of_getElem? (i := 1) rfl)) (fun _ h9 => h9) (fM_0_24 _ _) dX8_lookUp_56 ?_
          refine lv_aload_n hx hb dX8_lookUp_59 rfl (lv_at hl 0 rfl) ?_
          refine va_get (D := D) (ci := 7) (v := .ref (ad 2)) (C := RX8) (T := TX8) (N := 50) hx hb hts in_X8_lookUp_X8 hown hK hP 0 (wM_0 _ _ _ _ _) rfl 2 (by decide) (hts (.fieldLink RX8 13 "CallGraphsModel" "superOf" "[I") (List.mem_of_getElem? (i := 2) rfl)) (fun _ h9 => h9) (fM_0_2 _ _) dX8_lookUp_60 ?_
          refine lv_iload_n hx hb dX8_lookUp_63 rfl (lv_at hl 1 rfl) ?_
          obtain ⟨h_64, hf⟩ := oi_e hf
          refine va_iald hx hb hK hP 2 0 (wM_2 _ _ _ _ _) rfl h_64 dX8_lookUp_64 ?_
          refine lv_iconst (v := 1) hx hb dX8_lookUp_65 (by decide) ?_
          obtain ⟨h_66, hf⟩ := oi_e hf
          refine va_zast hx hb hK hP (hD _) hS 20 2 (wM_20 _ _ _ _ _) rfl h_66 dX8_lookUp_66 (fun H locs hP _ hS => ?_)
          rw [nb_a (Or.inr rfl)] at hP
          have hP := wM_s20 hP
          obtain ⟨s_66, es_66, hf⟩ := os_e hf
          rw [← es_66] at hP
          exact w_X8_lookUp_67 hm hR hK hD (p_X8_lookUp_32 n) hk32 v2 s_66 hf _ _ _ hP hS (lv_sub hl [0, 1] rfl)
def p_X8_lookUp_2 : Nat → Int32 → Int32 → SS → Option (SS)
  | 0, _, _, _ => none
  | n + 1, v1, v2, σ => let k2 := p_X8_lookUp_2 n; if 16 ≤ v2 then p_X8_lookUp_32 100000 v1 σ else if v2 = v1 then p_X8_lookUp_23 k2 v1 v2 1 v2 σ else p_X8_lookUp_23 k2 v1 v2 0 v2 σ
set_option maxHeartbeats 4000000 in
set_option maxRecDepth 100000 in
theorem w_X8_lookUp_2 {p : Program} {l : Launch} {e : Env} {R : Room} {s : State} {m : MethodId} {args : Array Value} {below : List Frame} {meth : Method} {c : Code} {D : va_G} {ad : Nat → Nat} {cI cJ cZ : ClassId} {res : SS} (hm : mx p s m args meth c cX8_lookUp 4 none wsX8_lookUp RX8) (hR : 0 ≤ R.frames ∧ 0 ≤ R.locals) (hK : va_K D vwCl (tyw cI cJ cZ) s) (hD : ∀ σ, va_D (aM ad) (wM ad cI cJ cZ σ)) : ∀ (n : Nat) (v1 : Int32) (v2 : Int32) (σ : SS), p_X8_lookUp_2 n v1 v2 σ = some res → ∀ (H : Heap) (locs : List Loc) (ls : Array Slot), va_P D vwCl (wM ad cI cJ cZ σ) H → va_S (aM ad) s.heap H locs → lv_has ls 4 [(0, .ref (ad 0)), (1, .int v1), (2, .int v2)] → W p l e R s m args below meth c H locs 0 0 (MQ below (va_Qv (fun (u : SS) => u = res) (fun u t => va_P D vwCl (wM ad cI cJ cZ u) t.heap) (aM ad)) args s 0 0 (aM ad)) (F0 m 2 ls []) := by
  obtain ⟨hx, hb, hr, hml, hown, hts, hlk⟩ := id hm
  intro n
  induction n with
  | zero =>
    intro _ _ _ hf
    cases hf
  | succ n hk2 =>
    intro v1 v2 σ hf H locs ls hP hS hl
    rw [p_X8_lookUp_2] at hf
    try dsimp only at hf
    refine lv_iload_n hx hb dX8_lookUp_2 rfl (lv_at hl 2 rfl) ?_
    refine lv_bipush (v := 16) hx hb dX8_lookUp_3 (by decide) ?_
    refine lv_icmp_ge (tgt := 30) hx hb dX8_lookUp_5 (by decide) (fun c_5 => ?_) (fun c_5 => ?_)
    · rw [if_pos c_5] at hf
      refine lv_iload_n hx hb dX8_lookUp_30 rfl (lv_at hl 1 rfl) ?_
      refine lv_istore_n (lv' := [(2, .int v1), (0, .ref (ad 0)), (1, .int v1)]) hx hb dX8_lookUp_31 rfl hl (by decide) rfl (fun ls hl => ?_)
      exact w_X8_lookUp_32 hm hR hK hD 100000 v1 σ hf _ _ _ hP hS (lv_sub hl [1, 0] rfl)
    · rw [if_neg c_5] at hf
      refine lv_aload_n hx hb dX8_lookUp_8 rfl (lv_at hl 0 rfl) ?_
      refine va_get (D := D) (ci := 7) (v := .ref (ad 20)) (C := RX8) (T := TX8) (N := 50) hx hb hts in_X8_lookUp_X8 hown hK hP 0 (wM_0 _ _ _ _ _) rfl 24 (by decide) (hts (.fieldLink RX8 68 "CallGraphsModel" "above" "[Z") (List.mem_of_getElem? (i := 1) rfl)) (fun _ h9 => h9) (fM_0_24 _ _) dX8_lookUp_9 ?_
      refine lv_iload_n hx hb dX8_lookUp_12 rfl (lv_at hl 2 rfl) ?_
      refine lv_iload_n hx hb dX8_lookUp_13 rfl (lv_at hl 2 rfl) ?_
      refine lv_iload_n hx hb dX8_lookUp_14 rfl (lv_at hl 1 rfl) ?_
      refine lv_icmp_ne (tgt := 22) hx hb dX8_lookUp_15 (by decide) (fun c_15 => ?_) (fun c_15 => ?_)
      · rw [if_neg c_15] at hf
        refine lv_iconst (v := 0) hx hb dX8_lookUp_22 (by decide) ?_
        exact w_X8_lookUp_23 hm hR hK hD (p_X8_lookUp_2 n) hk2 v1 v2 0 v2 σ hf _ _ _ hP hS (lv_sub hl [0, 1, 2] rfl)
      · rw [if_pos c_15] at hf
        refine lv_iconst (v := 1) hx hb dX8_lookUp_18 (by decide) ?_
        refine lv_goto (tgt := 23) hx hb dX8_lookUp_19 (by decide) ?_
        exact w_X8_lookUp_23 hm hR hK hD (p_X8_lookUp_2 n) hk2 v1 v2 1 v2 σ hf _ _ _ hP hS (lv_sub hl [0, 1, 2] rfl)
def p_X8_lookUp_0 (v1 : Int32) (σ : SS) : Option (SS) := p_X8_lookUp_2 100000 v1 0 σ
set_option maxHeartbeats 4000000 in
set_option maxRecDepth 100000 in
theorem w_X8_lookUp_0 {p : Program} {l : Launch} {e : Env} {R : Room} {s : State} {m : MethodId} {args : Array Value} {below : List Frame} {meth : Method} {c : Code} {D : va_G} {ad : Nat → Nat} {cI cJ cZ : ClassId} {res : SS} (hm : mx p s m args meth c cX8_lookUp 4 none wsX8_lookUp RX8) (hR : 0 ≤ R.frames ∧ 0 ≤ R.locals) (hK : va_K D vwCl (tyw cI cJ cZ) s) (hD : ∀ σ, va_D (aM ad) (wM ad cI cJ cZ σ)) (v1 : Int32) (σ : SS) (hf : p_X8_lookUp_0 v1 σ = some res) (H : Heap) (locs : List Loc) (ls : Array Slot) (hP : va_P D vwCl (wM ad cI cJ cZ σ) H) (hS : va_S (aM ad) s.heap H locs) (hl : lv_has ls 4 [(0, .ref (ad 0)), (1, .int v1)]) : W p l e R s m args below meth c H locs 0 0 (MQ below (va_Qv (fun (u : SS) => u = res) (fun u t => va_P D vwCl (wM ad cI cJ cZ u) t.heap) (aM ad)) args s 0 0 (aM ad)) (F0 m 0 ls []) := by
  obtain ⟨hx, hb, hr, hml, hown, hts, hlk⟩ := id hm
  unfold p_X8_lookUp_0 at hf
  refine lv_iconst (v := 0) hx hb dX8_lookUp_0 (by decide) ?_
  refine lv_istore_n (lv' := [(2, .int 0), (0, .ref (ad 0)), (1, .int v1)]) hx hb dX8_lookUp_1 rfl hl (by decide) rfl (fun ls hl => ?_)
  exact w_X8_lookUp_2 hm hR hK hD 100000 v1 0 σ hf _ _ _ hP hS (lv_sub hl [1, 2, 0] rfl)
theorem hd_X8_lookUp : yX8_lookUp.cls = RX8 ∧ yX8_lookUp.cls ≠ "java/lang/invoke/MethodHandle" ∧ yX8_lookUp.cls ≠ "java/lang/invoke/VarHandle" ∧ (parseMethodDescriptor yX8_lookUp.desc).map (fun d => d.parameters.length) = some 1 := by decide +kernel
set_option maxHeartbeats 4000000 in
set_option maxRecDepth 100000 in
theorem c_X8_lookUp (l : Launch) (D : va_G) (ad : Nat → Nat) (cI cJ cZ : ClassId) (σ : SS) (v1 : Int32) {res : SS} (hf : p_X8_lookUp_0 v1 σ = some res) : Met l yX8_lookUp wsX8_lookUp ({ frames := 0, cells := 0, slots := 0, locals := 0 } : Room) (PW D (tyw cI cJ cZ) (wM ad cI cJ cZ σ) [.ref (ad 0), .int v1]) (va_Qv (fun (u : SS) => u = res) (fun u t => va_P D vwCl (wM ad cI cJ cZ u) t.heap) (aM ad)) 0 0 (aM ad) := by
  refine Met.ofW (cc := cX8_lookUp) (maxL := 4) (ret := none) (by decide) rfl ?_
  intro p e s m args below meth c s₁ B hml hv
  obtain ⟨rfl, hP, hK, hD0⟩ := hv
  have hD : ∀ σ, va_D (aM ad) (wM ad cI cJ cZ σ) := fun σ => wd_D hD0 (wM_map _ _ _ _ _) (wM_map _ _ _ _ _)
  have hm : mx p s m _ meth c cX8_lookUp 4 none wsX8_lookUp RX8 := ⟨B.exec, B.bytes, B.returns, hml, findClass_of_methodNamed B.named, atoms_spec (ws := wsX8_lookUp) B.pre, B.notSynchronized⟩
  have hl := lv_entry ([.ref (ad 0), .int v1]) (n := 4) (Nat.le_of_ble_eq_true rfl)
  rw [lg_entry_eq]
  generalize (lg_sl ([.ref (ad 0), .int v1]) ++ List.replicate (4 - (lg_sl ([.ref (ad 0), .int v1])).length) Slot.unset).toArray = ls at hl ⊢
  exact w_X8_lookUp_0 hm ⟨Nat.le_refl _, Nat.le_refl _⟩ hK hD v1 σ hf _ _ _ hP va_S.rf hl
/-! CallGraphsModel.isUnder(II)Z -/
theorem in_X8_isUnder_X8 : ∀ w ∈ u_ws RX8 TX8 50, w ∈ wsX8_isUnder := fun w h => List.mem_cons_of_mem _ (List.mem_append_right _ h)
def p_X8_isUnder_30 (k14 : Int32 → Int32 → Int32 → SS → Option (Int32 × SS)) : Nat → Int32 → Int32 → Int32 → Int32 → SS → Option (Int32 × SS)
  | 0, _, _, _, _, _ => none
  | n + 1, v1, v2, v3, v4, σ => let k30 := p_X8_isUnder_30 k14 n; if 16 ≤ v4 then k14 v1 v2 (v3 + 1) σ else oi v4 16 (oi ((16 * v3) + v4) 256 (ob (σ.1 20 v4.toNatClampNeg) (os (sI σ 21 (((16 * v3) + v4).toNatClampNeg) (σ.1 20 v4.toNatClampNeg)) (fun s_55 => k30 v1 v2 v3 (v4 + 1) s_55))))
set_option maxHeartbeats 4000000 in
set_option maxRecDepth 100000 in
theorem w_X8_isUnder_30 {p : Program} {l : Launch} {e : Env} {R : Room} {s : State} {m : MethodId} {args : Array Value} {below : List Frame} {meth : Method} {c : Code} {D : va_G} {ad : Nat → Nat} {cI cJ cZ : ClassId} {res : Int32 × SS} (hm : mx p s m args meth c cX8_isUnder 5 (some .boolean) wsX8_isUnder RX8) (hR : 1 ≤ R.frames ∧ 23 ≤ R.locals) (hK : va_K D vwCl (tyw cI cJ cZ) s) (hD : ∀ σ, va_D (aM ad) (wM ad cI cJ cZ σ)) (k14 : Int32 → Int32 → Int32 → SS → Option (Int32 × SS)) (hk14 : ∀ (v1 : Int32) (v2 : Int32) (v3 : Int32) (σ : SS), k14 v1 v2 v3 σ = some res → ∀ (H : Heap) (locs : List Loc) (ls : Array Slot), va_P D vwCl (wM ad cI cJ cZ σ) H → va_S (aM ad) s.heap H locs → lv_has ls 5 [(0, .ref (ad 0)), (1, .int v1), (2, .int v2), (3, .int v3)] → W p l e R s m args below meth c H locs 0 0 (MQ below (va_Qi (fun (r : Int32) (u : SS) => (r, u) = res) (fun u t => va_P D vwCl (wM ad cI cJ cZ u) t.heap) (aM ad)) args s 0 0 (aM ad)) (F0 m 14 ls [])) : ∀ (n : Nat) (v1 : Int32) (v2 : Int32) (v3 : Int32) (v4 : Int32) (σ : SS), p_X8_isUnder_30 k14 n v1 v2 v3 v4 σ = some res → ∀ (H : Heap) (locs : List Loc) (ls : Array Slot), va_P D vwCl (wM ad cI cJ cZ σ) H → va_S (aM ad) s.heap H locs → lv_has ls 5 [(0, .ref (ad 0)), (1, .int v1), (2, .int v2), (3, .int v3), (4, .int v4)] → W p l e R s m args below meth c H locs 0 0 (MQ below (va_Qi (fun (r : Int32) (u : SS) => (r, u) = res) (fun u t => va_P D vwCl (wM ad cI cJ cZ u) t.heap) (aM ad)) args s 0 0 (aM ad)) (F0 m 30 ls []) := by
  obtain ⟨hx, hb, hr, hml, hown, hts, hlk⟩ := id hm
  intro n
  induction n with
  | zero =>
    intro _ _ _ _ _ hf
    cases hf
  | succ n hk30 =>
    intro v1 v2 v3 v4 σ hf H locs ls hP hS hl
    rw [p_X8_isUnder_30] at hf
    try dsimp only at hf
    refine lv_iload hx hb dX8_isUnder_30 (lv_at hl 4 rfl) ?_
    refine lv_bipush (v := 16) hx hb dX8_isUnder_32 (by decide) ?_
    refine lv_icmp_ge (tgt := 62) hx hb dX8_isUnder_34 (by decide) (fun c_34 => ?_) (fun c_34 => ?_)
    · rw [if_pos c_34] at hf
      refine lv_iinc (v := (v3 + 1)) (lv' := [(3, .int (v3 + 1)), (0, .ref (ad 0)), (1, .int v1), (2, .int v2), (4, .int v4)]) hx hb dX8_isUnder_62 hl (k := 3) rfl rfl (by decide) rfl (fun ls hl => ?_)
      refine lv_goto (tgt := 14) hx hb dX8_isUnder_65 (by decide) ?_
      exact hk14 v1 v2 (v3 + 1) σ hf _ _ _ hP hS (lv_sub hl [1, 2, 3, 0] rfl)
    · rw [if_neg c_34] at hf
      refine lv_aload_n hx hb dX8_isUnder_37 rfl (lv_at hl 0 rfl) ?_
      refine va_get (D := D) (ci := 7) (v := .ref (ad 21)) (C := RX8) (T := TX8) (N := 50) hx hb hts in_X8_isUnder_X8 hown hK hP 0 (wM_0 _ _ _ _ _) rfl 25 (by decide) (hts (.fieldLink RX8 71 "CallGraphsModel" "underAt" "[Z") (List.mem_of_getElem? (i := 3) rfl)) (fun _ h9 => h9) (fM_0_25 _ _) dX8_isUnder_38 ?_
      refine lv_bipush (v := 16) hx hb dX8_isUnder_41 (by decide) ?_
      refine lv_iload_n hx hb dX8_isUnder_43 rfl (lv_at hl 3 rfl) ?_
      refine lv_imul hx hb dX8_isUnder_44 ?_
      refine lv_iload hx hb dX8_isUnder_45 (lv_at hl 4 rfl) ?_
      refine lv_iadd hx hb dX8_isUnder_47 ?_
      refine lv_aload_n hx hb dX8_isUnder_48 rfl (lv_at hl 0 rfl) ?_
      refine va_get (D := D) (ci := 7) (v := .ref (ad 20)) (C := RX8) (T := TX8) (N := 50) hx hb hts in_X8_isUnder_X8 hown hK hP 0 (wM_0 _ _ _ _ _) rfl 24 (by decide) (hts (.fieldLink RX8 68 "CallGraphsModel" "above" "[Z") (List.mem_of_getElem? (i := 4) rfl)) (fun _ h9 => h9) (fM_0_24 _ _) dX8_isUnder_49 ?_
      refine lv_iload hx hb dX8_isUnder_52 (lv_at hl 4 rfl) ?_
      obtain ⟨h_54, hf⟩ := oi_e hf
      refine va_zald hx hb hK hP 20 2 (wM_20 _ _ _ _ _) rfl h_54 dX8_isUnder_54 ?_
      obtain ⟨h_55, hf⟩ := oi_e hf
      obtain ⟨hb_55, hf⟩ := ob_e hf
      refine va_zast hx hb hK hP (hD _) hS 21 2 (wM_21 _ _ _ _ _) rfl h_55 dX8_isUnder_55 (fun H locs hP _ hS => ?_)
      rw [nb_a hb_55] at hP
      have hP := wM_s21 hP
      obtain ⟨s_55, es_55, hf⟩ := os_e hf
      rw [← es_55] at hP
      refine lv_iinc (v := (v4 + 1)) (lv' := [(4, .int (v4 + 1)), (0, .ref (ad 0)), (1, .int v1), (2, .int v2), (3, .int v3)]) hx hb dX8_isUnder_56 hl (k := 4) rfl rfl (by decide) rfl (fun ls hl => ?_)
      refine lv_goto (tgt := 30) hx hb dX8_isUnder_59 (by decide) ?_
      exact hk30 v1 v2 v3 (v4 + 1) s_55 hf _ _ _ hP hS (lv_sub hl [1, 2, 3, 4, 0] rfl)
def p_X8_isUnder_68 (v1 : Int32) (v2 : Int32) (σ : SS) : Option (Int32 × SS) := oi ((16 * v1) + v2) 256 (ob (σ.1 21 ((16 * v1) + v2).toNatClampNeg) (some ((σ.1 21 ((16 * v1) + v2).toNatClampNeg), σ)))
set_option maxHeartbeats 4000000 in
set_option maxRecDepth 100000 in
theorem w_X8_isUnder_68 {p : Program} {l : Launch} {e : Env} {R : Room} {s : State} {m : MethodId} {args : Array Value} {below : List Frame} {meth : Method} {c : Code} {D : va_G} {ad : Nat → Nat} {cI cJ cZ : ClassId} {res : Int32 × SS} (hm : mx p s m args meth c cX8_isUnder 5 (some .boolean) wsX8_isUnder RX8) (hR : 1 ≤ R.frames ∧ 23 ≤ R.locals) (hK : va_K D vwCl (tyw cI cJ cZ) s) (hD : ∀ σ, va_D (aM ad) (wM ad cI cJ cZ σ)) (v1 : Int32) (v2 : Int32) (σ : SS) (hf : p_X8_isUnder_68 v1 v2 σ = some res) (H : Heap) (locs : List Loc) (ls : Array Slot) (hP : va_P D vwCl (wM ad cI cJ cZ σ) H) (hS : va_S (aM ad) s.heap H locs) (hl : lv_has ls 5 [(0, .ref (ad 0)), (1, .int v1), (2, .int v2)]) : W p l e R s m args below meth c H locs 0 0 (MQ below (va_Qi (fun (r : Int32) (u : SS) => (r, u) = res) (fun u t => va_P D vwCl (wM ad cI cJ cZ u) t.heap) (aM ad)) args s 0 0 (aM ad)) (F0 m 68 ls []) := by
  obtain ⟨hx, hb, hr, hml, hown, hts, hlk⟩ := id hm
  unfold p_X8_isUnder_68 at hf
  refine lv_aload_n hx hb dX8_isUnder_68 rfl (lv_at hl 0 rfl) ?_
  refine va_get (D := D) (ci := 7) (v := .ref (ad 21)) (C := RX8) (T := TX8) (N := 50) hx hb hts in_X8_isUnder_X8 hown hK hP 0 (wM_0 _ _ _ _ _) rfl 25 (by decide) (hts (.fieldLink RX8 71 "CallGraphsModel" "underAt" "[Z") (List.mem_of_getElem? (i := 3) rfl)) (fun _ h9 => h9) (fM_0_25 _ _) dX8_isUnder_69 ?_
  refine lv_bipush (v := 16) hx hb dX8_isUnder_72 (by decide) ?_
  refine lv_iload_n hx hb dX8_isUnder_74 rfl (lv_at hl 1 rfl) ?_
  refine lv_imul hx hb dX8_isUnder_75 ?_
  refine lv_iload_n hx hb dX8_isUnder_76 rfl (lv_at hl 2 rfl) ?_
  refine lv_iadd hx hb dX8_isUnder_77 ?_
  obtain ⟨h_78, hf⟩ := oi_e hf
  refine va_zald hx hb hK hP 21 2 (wM_21 _ _ _ _ _) rfl h_78 dX8_isUnder_78 ?_
  obtain ⟨h_79, hf⟩ := ob_e hf
  exact rt_z (wd := wM ad cI cJ cZ) hx hb hr hlk h_79 (Option.some.inj hf) hP hS dX8_isUnder_79
def p_X8_isUnder_14 : Nat → Int32 → Int32 → Int32 → SS → Option (Int32 × SS)
  | 0, _, _, _, _ => none
  | n + 1, v1, v2, v3, σ => let k14 := p_X8_isUnder_14 n; if (σ.1 0 0) ≤ v3 then p_X8_isUnder_68 v1 v2 σ else oc (p_X8_lookUp_0 v3 σ) (fun r_24 => p_X8_isUnder_30 k14 100000 v1 v2 v3 0 r_24)
set_option maxHeartbeats 4000000 in
set_option maxRecDepth 100000 in
theorem w_X8_isUnder_14 {p : Program} {l : Launch} {e : Env} {R : Room} {s : State} {m : MethodId} {args : Array Value} {below : List Frame} {meth : Method} {c : Code} {D : va_G} {ad : Nat → Nat} {cI cJ cZ : ClassId} {res : Int32 × SS} (hm : mx p s m args meth c cX8_isUnder 5 (some .boolean) wsX8_isUnder RX8) (hR : 1 ≤ R.frames ∧ 23 ≤ R.locals) (hK : va_K D vwCl (tyw cI cJ cZ) s) (hD : ∀ σ, va_D (aM ad) (wM ad cI cJ cZ σ)) : ∀ (n : Nat) (v1 : Int32) (v2 : Int32) (v3 : Int32) (σ : SS), p_X8_isUnder_14 n v1 v2 v3 σ = some res → ∀ (H : Heap) (locs : List Loc) (ls : Array Slot), va_P D vwCl (wM ad cI cJ cZ σ) H → va_S (aM ad) s.heap H locs → lv_has ls 5 [(0, .ref (ad 0)), (1, .int v1), (2, .int v2), (3, .int v3)] → W p l e R s m args below meth c H locs 0 0 (MQ below (va_Qi (fun (r : Int32) (u : SS) => (r, u) = res) (fun u t => va_P D vwCl (wM ad cI cJ cZ u) t.heap) (aM ad)) args s 0 0 (aM ad)) (F0 m 14 ls []) := by
  obtain ⟨hx, hb, hr, hml, hown, hts, hlk⟩ := id hm
  intro n
  induction n with
  | zero =>
    intro _ _ _ _ hf
    cases hf
  | succ n hk14 =>
    intro v1 v2 v3 σ hf H locs ls hP hS hl
    rw [p_X8_isUnder_14] at hf
    try dsimp only at hf
    refine lv_iload_n hx hb dX8_isUnder_14 rfl (lv_at hl 3 rfl) ?_
    refine lv_aload_n hx hb dX8_isUnder_15 rfl (lv_at hl 0 rfl) ?_
    refine va_get (D := D) (ci := 7) (v := .int (σ.1 0 0)) (C := RX8) (T := TX8) (N := 50) hx hb hts in_X8_isUnder_X8 hown hK hP 0 (wM_0 _ _ _ _ _) rfl 0 (by decide) (hts (.fieldLink RX8 123 "CallGraphsModel" "types" "I") (List.mem_of_getElem? (i := 2) rfl)) (fun _ h9 => h9) (fM_0_0 _ _) dX8_isUnder_16 ?_
    refine lv_icmp_ge (tgt := 68) hx hb dX8_isUnder_19 (by decide) (fun c_19 => ?_) (fun c_19 => ?_)
    · rw [if_pos c_19] at hf
      exact w_X8_isUnder_68 hm hR hK hD v1 v2 σ hf _ _ _ hP hS (lv_sub hl [0, 1, 2] rfl)
    · rw [if_neg c_19] at hf
      refine lv_aload_n hx hb dX8_isUnder_22 rfl (lv_at hl 0 rfl) ?_
      refine lv_iload_n hx hb dX8_isUnder_23 rfl (lv_at hl 3 rfl) ?_
      obtain ⟨r_24, hg_24, hf⟩ := oc_e hf
      refine mV_wv (wd := wM ad cI cJ cZ) (σ := σ) (As := [.int v3]) (rest := []) ⟨hx, hb, hml, hown, hts⟩ hK hP hD hS (c_X8_lookUp l D ad cI cJ cZ σ v3 hg_24) (cwV 1 hts gX8_isUnder_X8_lookUp rfl rfl rfl hd_X8_lookUp ⟨Nat.le_trans (Nat.le_of_ble_eq_true rfl) hR.1, Nat.le_trans (Nat.le_of_ble_eq_true rfl) hR.2⟩) rfl (wM_0 _ _ _ _ _) rfl hl.1 rfl (Nat.le_of_ble_eq_true rfl) dX8_isUnder_24 (fun H locs hP hS => ?_)
      refine lv_iconst (v := 0) hx hb dX8_isUnder_27 (by decide) ?_
      refine lv_istore (lv' := [(4, .int 0), (0, .ref (ad 0)), (1, .int v1), (2, .int v2), (3, .int v3)]) hx hb dX8_isUnder_28 hl (by decide) rfl (fun ls hl => ?_)
      exact w_X8_isUnder_30 hm hR hK hD (p_X8_isUnder_14 n) hk14 100000 v1 v2 v3 0 r_24 hf _ _ _ hP hS (lv_sub hl [1, 2, 3, 4, 0] rfl)
def p_X8_isUnder_0 (v1 : Int32) (v2 : Int32) (σ : SS) : Option (Int32 × SS) := if (σ.1 0 26) = 0 then os (sI σ 0 26 1) (fun s_9 => p_X8_isUnder_14 100000 v1 v2 0 s_9) else p_X8_isUnder_68 v1 v2 σ
set_option maxHeartbeats 4000000 in
set_option maxRecDepth 100000 in
theorem w_X8_isUnder_0 {p : Program} {l : Launch} {e : Env} {R : Room} {s : State} {m : MethodId} {args : Array Value} {below : List Frame} {meth : Method} {c : Code} {D : va_G} {ad : Nat → Nat} {cI cJ cZ : ClassId} {res : Int32 × SS} (hm : mx p s m args meth c cX8_isUnder 5 (some .boolean) wsX8_isUnder RX8) (hR : 1 ≤ R.frames ∧ 23 ≤ R.locals) (hK : va_K D vwCl (tyw cI cJ cZ) s) (hD : ∀ σ, va_D (aM ad) (wM ad cI cJ cZ σ)) (v1 : Int32) (v2 : Int32) (σ : SS) (hf : p_X8_isUnder_0 v1 v2 σ = some res) (H : Heap) (locs : List Loc) (ls : Array Slot) (hP : va_P D vwCl (wM ad cI cJ cZ σ) H) (hS : va_S (aM ad) s.heap H locs) (hl : lv_has ls 5 [(0, .ref (ad 0)), (1, .int v1), (2, .int v2)]) : W p l e R s m args below meth c H locs 0 0 (MQ below (va_Qi (fun (r : Int32) (u : SS) => (r, u) = res) (fun u t => va_P D vwCl (wM ad cI cJ cZ u) t.heap) (aM ad)) args s 0 0 (aM ad)) (F0 m 0 ls []) := by
  obtain ⟨hx, hb, hr, hml, hown, hts, hlk⟩ := id hm
  unfold p_X8_isUnder_0 at hf
  refine lv_aload_n hx hb dX8_isUnder_0 rfl (lv_at hl 0 rfl) ?_
  refine va_get (D := D) (ci := 7) (v := .int (σ.1 0 26)) (C := RX8) (T := TX8) (N := 50) hx hb hts in_X8_isUnder_X8 hown hK hP 0 (wM_0 _ _ _ _ _) rfl 26 (by decide) (hts (.fieldLink RX8 134 "CallGraphsModel" "isLaid" "Z") (List.mem_of_getElem? (i := 1) rfl)) (fun _ h9 => h9) (fM_0_26 _ _) dX8_isUnder_1 ?_
  refine lv_if_ne (tgt := 68) hx hb dX8_isUnder_4 (by decide) (fun c_4 => ?_) (fun c_4 => ?_)
  · rw [if_neg c_4] at hf
    exact w_X8_isUnder_68 hm hR hK hD v1 v2 σ hf _ _ _ hP hS (lv_sub hl [0, 1, 2] rfl)
  · rw [if_pos c_4] at hf
    refine lv_aload_n hx hb dX8_isUnder_7 rfl (lv_at hl 0 rfl) ?_
    refine lv_iconst (v := 1) hx hb dX8_isUnder_8 (by decide) ?_
    refine va_put (D := D) (ci := 7) (v := .int 1) (ty := .boolean) (C := RX8) (T := TX8) (N := 50) hx hb hts in_X8_isUnder_X8 tyX8 tyX8_ok nmX8 hown hK hP (hD _) hS 0 (wM_0 _ _ _ _ _) rfl 26 (by decide) (hts (.fieldLink RX8 134 "CallGraphsModel" "isLaid" "Z") (List.mem_of_getElem? (i := 1) rfl)) (fun _ h9 => h9) rfl (tyX8_ok 26 (by decide)) (nb_n (Or.inr rfl)) (nb_f (Or.inr rfl)) (Nat.le_of_ble_eq_true rfl) dX8_isUnder_9 (fun H locs hP _ hS => ?_)
    have hP := wM_p0_26 hP
    obtain ⟨s_9, es_9, hf⟩ := os_e hf
    rw [← es_9] at hP
    refine lv_iconst (v := 0) hx hb dX8_isUnder_12 (by decide) ?_
    refine lv_istore_n (lv' := [(3, .int 0), (0, .ref (ad 0)), (1, .int v1), (2, .int v2)]) hx hb dX8_isUnder_13 rfl hl (by decide) rfl (fun ls hl => ?_)
    exact w_X8_isUnder_14 hm hR hK hD 100000 v1 v2 0 s_9 hf _ _ _ hP hS (lv_sub hl [1, 2, 3, 0] rfl)
theorem hd_X8_isUnder : yX8_isUnder.cls = RX8 ∧ yX8_isUnder.cls ≠ "java/lang/invoke/MethodHandle" ∧ yX8_isUnder.cls ≠ "java/lang/invoke/VarHandle" ∧ (parseMethodDescriptor yX8_isUnder.desc).map (fun d => d.parameters.length) = some 2 := by decide +kernel
set_option maxHeartbeats 4000000 in
set_option maxRecDepth 100000 in
theorem c_X8_isUnder (l : Launch) (D : va_G) (ad : Nat → Nat) (cI cJ cZ : ClassId) (σ : SS) (v1 : Int32) (v2 : Int32) {res : Int32 × SS} (hf : p_X8_isUnder_0 v1 v2 σ = some res) : Met l yX8_isUnder wsX8_isUnder ({ frames := 1, cells := 0, slots := 0, locals := 23 } : Room) (PW D (tyw cI cJ cZ) (wM ad cI cJ cZ σ) [.ref (ad 0), .int v1, .int v2]) (va_Qi (fun (r : Int32) (u : SS) => (r, u) = res) (fun u t => va_P D vwCl (wM ad cI cJ cZ u) t.heap) (aM ad)) 0 0 (aM ad) := by
  refine Met.ofW (cc := cX8_isUnder) (maxL := 5) (ret := (some .boolean)) (by decide) rfl ?_
  intro p e s m args below meth c s₁ B hml hv
  obtain ⟨rfl, hP, hK, hD0⟩ := hv
  have hD : ∀ σ, va_D (aM ad) (wM ad cI cJ cZ σ) := fun σ => wd_D hD0 (wM_map _ _ _ _ _) (wM_map _ _ _ _ _)
  have hm : mx p s m _ meth c cX8_isUnder 5 (some .boolean) wsX8_isUnder RX8 := ⟨B.exec, B.bytes, B.returns, hml, findClass_of_methodNamed B.named, atoms_spec (ws := wsX8_isUnder) B.pre, B.notSynchronized⟩
  have hl := lv_entry ([.ref (ad 0), .int v1, .int v2]) (n := 5) (Nat.le_of_ble_eq_true rfl)
  rw [lg_entry_eq]
  generalize (lg_sl ([.ref (ad 0), .int v1, .int v2]) ++ List.replicate (5 - (lg_sl ([.ref (ad 0), .int v1, .int v2])).length) Slot.unset).toArray = ls at hl ⊢
  exact w_X8_isUnder_0 hm ⟨Nat.le_refl _, Nat.le_refl _⟩ hK hD v1 v2 σ hf _ _ _ hP va_S.rf hl
/-! CallGraphsModel.type(II)I -/
theorem in_X8_type_X8 : ∀ w ∈ u_ws RX8 TX8 50, w ∈ wsX8_type := fun w h => List.mem_cons_of_mem _ (List.mem_append_right _ h)
def p_X8_type_45 (σ : SS) : Option (Int32 × SS) := some ((-102), σ)
set_option maxHeartbeats 4000000 in
set_option maxRecDepth 100000 in
theorem w_X8_type_45 {p : Program} {l : Launch} {e : Env} {R : Room} {s : State} {m : MethodId} {args : Array Value} {below : List Frame} {meth : Method} {c : Code} {D : va_G} {ad : Nat → Nat} {cI cJ cZ : ClassId} {res : Int32 × SS} (hm : mx p s m args meth c cX8_type 3 (some .int) wsX8_type RX8) (hR : 2 ≤ R.frames ∧ 43 ≤ R.locals) (hK : va_K D vwCl (tyw cI cJ cZ) s) (hD : ∀ σ, va_D (aM ad) (wM ad cI cJ cZ σ)) (σ : SS) (hf : p_X8_type_45 σ = some res) (H : Heap) (locs : List Loc) (ls : Array Slot) (hP : va_P D vwCl (wM ad cI cJ cZ σ) H) (hS : va_S (aM ad) s.heap H locs) (hl : lv_has ls 3 []) : W p l e R s m args below meth c H locs 0 0 (MQ below (va_Qi (fun (r : Int32) (u : SS) => (r, u) = res) (fun u t => va_P D vwCl (wM ad cI cJ cZ u) t.heap) (aM ad)) args s 0 0 (aM ad)) (F0 m 45 ls []) := by
  obtain ⟨hx, hb, hr, hml, hown, hts, hlk⟩ := id hm
  unfold p_X8_type_45 at hf
  refine lv_bipush (v := (-102)) hx hb dX8_type_45 (by decide) ?_
  exact rt_i (wd := wM ad cI cJ cZ) hx hb hr hlk (Option.some.inj hf) hP hS dX8_type_47
def p_X8_type_48 (v1 : Int32) (v2 : Int32) (σ : SS) : Option (Int32 × SS) := if (σ.1 0 0) = 16 then some ((-104), σ) else oi (σ.1 0 0) 16 (os (sI σ 1 ((σ.1 0 0).toNatClampNeg) v1) (fun s_69 => oi (s_69.1 0 0) 16 (os (sI s_69 2 ((s_69.1 0 0).toNatClampNeg) v2) (fun s_79 => oi (s_79.1 0 0) 16 (os (sI s_79 3 ((s_79.1 0 0).toNatClampNeg) 0) (fun s_89 => os (sI s_89 0 0 ((s_89.1 0 0) + 1)) (fun s_97 => os (sI s_97 0 16 0) (fun s_102 => os (sI s_102 0 26 0) (fun s_107 => some (((s_107.1 0 0) - 1), s_107))))))))))
set_option maxHeartbeats 4000000 in
set_option maxRecDepth 100000 in
theorem w_X8_type_48 {p : Program} {l : Launch} {e : Env} {R : Room} {s : State} {m : MethodId} {args : Array Value} {below : List Frame} {meth : Method} {c : Code} {D : va_G} {ad : Nat → Nat} {cI cJ cZ : ClassId} {res : Int32 × SS} (hm : mx p s m args meth c cX8_type 3 (some .int) wsX8_type RX8) (hR : 2 ≤ R.frames ∧ 43 ≤ R.locals) (hK : va_K D vwCl (tyw cI cJ cZ) s) (hD : ∀ σ, va_D (aM ad) (wM ad cI cJ cZ σ)) (v1 : Int32) (v2 : Int32) (σ : SS) (hf : p_X8_type_48 v1 v2 σ = some res) (H : Heap) (locs : List Loc) (ls : Array Slot) (hP : va_P D vwCl (wM ad cI cJ cZ σ) H) (hS : va_S (aM ad) s.heap H locs) (hl : lv_has ls 3 [(0, .ref (ad 0)), (1, .int v1), (2, .int v2)]) : W p l e R s m args below meth c H locs 0 0 (MQ below (va_Qi (fun (r : Int32) (u : SS) => (r, u) = res) (fun u t => va_P D vwCl (wM ad cI cJ cZ u) t.heap) (aM ad)) args s 0 0 (aM ad)) (F0 m 48 ls []) := by
  obtain ⟨hx, hb, hr, hml, hown, hts, hlk⟩ := id hm
  unfold p_X8_type_48 at hf
  refine lv_aload_n hx hb dX8_type_48 rfl (lv_at hl 0 rfl) ?_
  refine va_get (D := D) (ci := 7) (v := .int (σ.1 0 0)) (C := RX8) (T := TX8) (N := 50) hx hb hts in_X8_type_X8 hown hK hP 0 (wM_0 _ _ _ _ _) rfl 0 (by decide) (hts (.fieldLink RX8 123 "CallGraphsModel" "types" "I") (List.mem_of_getElem? (i := 2) rfl)) (fun _ h9 => h9) (fM_0_0 _ _) dX8_type_49 ?_
  refine lv_bipush (v := 16) hx hb dX8_type_52 (by decide) ?_
  refine lv_icmp_ne (tgt := 60) hx hb dX8_type_54 (by decide) (fun c_54 => ?_) (fun c_54 => ?_)
  · rw [if_neg c_54] at hf
    refine lv_aload_n hx hb dX8_type_60 rfl (lv_at hl 0 rfl) ?_
    refine va_get (D := D) (ci := 7) (v := .ref (ad 1)) (C := RX8) (T := TX8) (N := 50) hx hb hts in_X8_type_X8 hown hK hP 0 (wM_0 _ _ _ _ _) rfl 1 (by decide) (hts (.fieldLink RX8 7 "CallGraphsModel" "kindOf" "[I") (List.mem_of_getElem? (i := 1) rfl)) (fun _ h9 => h9) (fM_0_1 _ _) dX8_type_61 ?_
    refine lv_aload_n hx hb dX8_type_64 rfl (lv_at hl 0 rfl) ?_
    refine va_get (D := D) (ci := 7) (v := .int (σ.1 0 0)) (C := RX8) (T := TX8) (N := 50) hx hb hts in_X8_type_X8 hown hK hP 0 (wM_0 _ _ _ _ _) rfl 0 (by decide) (hts (.fieldLink RX8 123 "CallGraphsModel" "types" "I") (List.mem_of_getElem? (i := 2) rfl)) (fun _ h9 => h9) (fM_0_0 _ _) dX8_type_65 ?_
    refine lv_iload_n hx hb dX8_type_68 rfl (lv_at hl 1 rfl) ?_
    obtain ⟨h_69, hf⟩ := oi_e hf
    refine va_iast hx hb hK hP (hD _) hS 1 0 (wM_1 _ _ _ _ _) rfl h_69 dX8_type_69 (fun H locs hP _ hS => ?_)
    have hP := wM_s1 hP
    obtain ⟨s_69, es_69, hf⟩ := os_e hf
    rw [← es_69] at hP
    refine lv_aload_n hx hb dX8_type_70 rfl (lv_at hl 0 rfl) ?_
    refine va_get (D := D) (ci := 7) (v := .ref (ad 2)) (C := RX8) (T := TX8) (N := 50) hx hb hts in_X8_type_X8 hown hK hP 0 (wM_0 _ _ _ _ _) rfl 2 (by decide) (hts (.fieldLink RX8 13 "CallGraphsModel" "superOf" "[I") (List.mem_of_getElem? (i := 3) rfl)) (fun _ h9 => h9) (fM_0_2 _ _) dX8_type_71 ?_
    refine lv_aload_n hx hb dX8_type_74 rfl (lv_at hl 0 rfl) ?_
    refine va_get (D := D) (ci := 7) (v := .int (s_69.1 0 0)) (C := RX8) (T := TX8) (N := 50) hx hb hts in_X8_type_X8 hown hK hP 0 (wM_0 _ _ _ _ _) rfl 0 (by decide) (hts (.fieldLink RX8 123 "CallGraphsModel" "types" "I") (List.mem_of_getElem? (i := 2) rfl)) (fun _ h9 => h9) (fM_0_0 _ _) dX8_type_75 ?_
    refine lv_iload_n hx hb dX8_type_78 rfl (lv_at hl 2 rfl) ?_
    obtain ⟨h_79, hf⟩ := oi_e hf
    refine va_iast hx hb hK hP (hD _) hS 2 0 (wM_2 _ _ _ _ _) rfl h_79 dX8_type_79 (fun H locs hP _ hS => ?_)
    have hP := wM_s2 hP
    obtain ⟨s_79, es_79, hf⟩ := os_e hf
    rw [← es_79] at hP
    refine lv_aload_n hx hb dX8_type_80 rfl (lv_at hl 0 rfl) ?_
    refine va_get (D := D) (ci := 7) (v := .ref (ad 3)) (C := RX8) (T := TX8) (N := 50) hx hb hts in_X8_type_X8 hown hK hP 0 (wM_0 _ _ _ _ _) rfl 3 (by decide) (hts (.fieldLink RX8 16 "CallGraphsModel" "faceMany" "[I") (List.mem_of_getElem? (i := 4) rfl)) (fun _ h9 => h9) (fM_0_3 _ _) dX8_type_81 ?_
    refine lv_aload_n hx hb dX8_type_84 rfl (lv_at hl 0 rfl) ?_
    refine va_get (D := D) (ci := 7) (v := .int (s_79.1 0 0)) (C := RX8) (T := TX8) (N := 50) hx hb hts in_X8_type_X8 hown hK hP 0 (wM_0 _ _ _ _ _) rfl 0 (by decide) (hts (.fieldLink RX8 123 "CallGraphsModel" "types" "I") (List.mem_of_getElem? (i := 2) rfl)) (fun _ h9 => h9) (fM_0_0 _ _) dX8_type_85 ?_
    refine lv_iconst (v := 0) hx hb dX8_type_88 (by decide) ?_
    obtain ⟨h_89, hf⟩ := oi_e hf
    refine va_iast hx hb hK hP (hD _) hS 3 0 (wM_3 _ _ _ _ _) rfl h_89 dX8_type_89 (fun H locs hP _ hS => ?_)
    have hP := wM_s3 hP
    obtain ⟨s_89, es_89, hf⟩ := os_e hf
    rw [← es_89] at hP
    refine lv_aload_n hx hb dX8_type_90 rfl (lv_at hl 0 rfl) ?_
    refine lv_dup hx hb dX8_type_91 rfl ?_
    refine va_get (D := D) (ci := 7) (v := .int (s_89.1 0 0)) (C := RX8) (T := TX8) (N := 50) hx hb hts in_X8_type_X8 hown hK hP 0 (wM_0 _ _ _ _ _) rfl 0 (by decide) (hts (.fieldLink RX8 123 "CallGraphsModel" "types" "I") (List.mem_of_getElem? (i := 2) rfl)) (fun _ h9 => h9) (fM_0_0 _ _) dX8_type_92 ?_
    refine lv_iconst (v := 1) hx hb dX8_type_95 (by decide) ?_
    refine lv_iadd hx hb dX8_type_96 ?_
    refine va_put (D := D) (ci := 7) (v := .int ((s_89.1 0 0) + 1)) (ty := .int) (C := RX8) (T := TX8) (N := 50) hx hb hts in_X8_type_X8 tyX8 tyX8_ok nmX8 hown hK hP (hD _) hS 0 (wM_0 _ _ _ _ _) rfl 0 (by decide) (hts (.fieldLink RX8 123 "CallGraphsModel" "types" "I") (List.mem_of_getElem? (i := 2) rfl)) (fun _ h9 => h9) rfl (tyX8_ok 0 (by decide)) rfl rfl (Nat.le_of_ble_eq_true rfl) dX8_type_97 (fun H locs hP _ hS => ?_)
    have hP := wM_p0_0 hP
    obtain ⟨s_97, es_97, hf⟩ := os_e hf
    rw [← es_97] at hP
    refine lv_aload_n hx hb dX8_type_100 rfl (lv_at hl 0 rfl) ?_
    refine lv_iconst (v := 0) hx hb dX8_type_101 (by decide) ?_
    refine va_put (D := D) (ci := 7) (v := .int 0) (ty := .boolean) (C := RX8) (T := TX8) (N := 50) hx hb hts in_X8_type_X8 tyX8 tyX8_ok nmX8 hown hK hP (hD _) hS 0 (wM_0 _ _ _ _ _) rfl 16 (by decide) (hts (.fieldLink RX8 119 "CallGraphsModel" "isFresh" "Z") (List.mem_of_getElem? (i := 5) rfl)) (fun _ h9 => h9) rfl (tyX8_ok 16 (by decide)) (nb_n (Or.inl rfl)) (nb_f (Or.inl rfl)) (Nat.le_of_ble_eq_true rfl) dX8_type_102 (fun H locs hP _ hS => ?_)
    have hP := wM_p0_16 hP
    obtain ⟨s_102, es_102, hf⟩ := os_e hf
    rw [← es_102] at hP
    refine lv_aload_n hx hb dX8_type_105 rfl (lv_at hl 0 rfl) ?_
    refine lv_iconst (v := 0) hx hb dX8_type_106 (by decide) ?_
    refine va_put (D := D) (ci := 7) (v := .int 0) (ty := .boolean) (C := RX8) (T := TX8) (N := 50) hx hb hts in_X8_type_X8 tyX8 tyX8_ok nmX8 hown hK hP (hD _) hS 0 (wM_0 _ _ _ _ _) rfl 26 (by decide) (hts (.fieldLink RX8 134 "CallGraphsModel" "isLaid" "Z") (List.mem_of_getElem? (i := 6) rfl)) (fun _ h9 => h9) rfl (tyX8_ok 26 (by decide)) (nb_n (Or.inl rfl)) (nb_f (Or.inl rfl)) (Nat.le_of_ble_eq_true rfl) dX8_type_107 (fun H locs hP _ hS => ?_)
    have hP := wM_p0_26 hP
    obtain ⟨s_107, es_107, hf⟩ := os_e hf
    rw [← es_107] at hP
    refine lv_aload_n hx hb dX8_type_110 rfl (lv_at hl 0 rfl) ?_
    refine va_get (D := D) (ci := 7) (v := .int (s_107.1 0 0)) (C := RX8) (T := TX8) (N := 50) hx hb hts in_X8_type_X8 hown hK hP 0 (wM_0 _ _ _ _ _) rfl 0 (by decide) (hts (.fieldLink RX8 123 "CallGraphsModel" "types" "I") (List.mem_of_getElem? (i := 2) rfl)) (fun _ h9 => h9) (fM_0_0 _ _) dX8_type_111 ?_
    refine lv_iconst (v := 1) hx hb dX8_type_114 (by decide) ?_
    refine lv_isub hx hb dX8_type_115 ?_
    exact rt_i (wd := wM ad cI cJ cZ) hx hb hr hlk (Option.some.inj hf) hP hS dX8_type_116
  · rw [if_pos c_54] at hf
    refine lv_bipush (v := (-104)) hx hb dX8_type_57 (by decide) ?_
    exact rt_i (wd := wM ad cI cJ cZ) hx hb hr hlk (Option.some.inj hf) hP hS dX8_type_59
def p_X8_type_16 (v1 : Int32) (v2 : Int32) (σ : SS) : Option (Int32 × SS) := oc (p_X8_in_0 v1 0 2) (fun r_19 => if r_19 = 0 then p_X8_type_45 σ else if v2 = (-1) then p_X8_type_48 v1 v2 σ else if v1 = 2 then p_X8_type_45 σ else oi v2 16 (if (σ.1 1 v2.toNatClampNeg) = 2 then p_X8_type_45 σ else p_X8_type_48 v1 v2 σ))
set_option maxHeartbeats 4000000 in
set_option maxRecDepth 100000 in
theorem w_X8_type_16 {p : Program} {l : Launch} {e : Env} {R : Room} {s : State} {m : MethodId} {args : Array Value} {below : List Frame} {meth : Method} {c : Code} {D : va_G} {ad : Nat → Nat} {cI cJ cZ : ClassId} {res : Int32 × SS} (hm : mx p s m args meth c cX8_type 3 (some .int) wsX8_type RX8) (hR : 2 ≤ R.frames ∧ 43 ≤ R.locals) (hK : va_K D vwCl (tyw cI cJ cZ) s) (hD : ∀ σ, va_D (aM ad) (wM ad cI cJ cZ σ)) (v1 : Int32) (v2 : Int32) (σ : SS) (hf : p_X8_type_16 v1 v2 σ = some res) (H : Heap) (locs : List Loc) (ls : Array Slot) (hP : va_P D vwCl (wM ad cI cJ cZ σ) H) (hS : va_S (aM ad) s.heap H locs) (hl : lv_has ls 3 [(0, .ref (ad 0)), (1, .int v1), (2, .int v2)]) : W p l e R s m args below meth c H locs 0 0 (MQ below (va_Qi (fun (r : Int32) (u : SS) => (r, u) = res) (fun u t => va_P D vwCl (wM ad cI cJ cZ u) t.heap) (aM ad)) args s 0 0 (aM ad)) (F0 m 16 ls []) := by
  obtain ⟨hx, hb, hr, hml, hown, hts, hlk⟩ := id hm
  unfold p_X8_type_16 at hf
  refine lv_iload_n hx hb dX8_type_16 rfl (lv_at hl 1 rfl) ?_
  refine lv_iconst (v := 0) hx hb dX8_type_17 (by decide) ?_
  refine lv_iconst (v := 2) hx hb dX8_type_18 (by decide) ?_
  obtain ⟨r_19, hg_19, hf⟩ := oc_e hf
  refine mS_i (D := D) (As := [.int v1, .int 0, .int 2]) (rest := []) ⟨hx, hb, hml, hown, hts⟩ hP hS (c_X8_in l v1 0 2 hg_19) (va_cwS 3 hts gX8_type_X8_in rfl rfl rfl hd_X8_in ⟨Nat.le_trans (Nat.le_of_ble_eq_true rfl) hR.1, Nat.le_trans (Nat.le_of_ble_eq_true rfl) hR.2⟩) rfl hl.1 rfl (Nat.le_of_ble_eq_true rfl) dX8_type_19 (fun H locs hP hS => ?_)
  refine lv_if_eq (tgt := 45) hx hb dX8_type_22 (by decide) (fun c_22 => ?_) (fun c_22 => ?_)
  · rw [if_pos c_22] at hf
    exact w_X8_type_45 hm hR hK hD σ hf _ _ _ hP hS (lv_sub hl [] rfl)
  · rw [if_neg c_22] at hf
    refine lv_iload_n hx hb dX8_type_25 rfl (lv_at hl 2 rfl) ?_
    refine lv_iconst (v := (-1)) hx hb dX8_type_26 (by decide) ?_
    refine lv_icmp_eq (tgt := 48) hx hb dX8_type_27 (by decide) (fun c_27 => ?_) (fun c_27 => ?_)
    · rw [if_pos c_27] at hf
      exact w_X8_type_48 hm hR hK hD v1 v2 σ hf _ _ _ hP hS (lv_sub hl [0, 1, 2] rfl)
    · rw [if_neg c_27] at hf
      refine lv_iload_n hx hb dX8_type_30 rfl (lv_at hl 1 rfl) ?_
      refine lv_iconst (v := 2) hx hb dX8_type_31 (by decide) ?_
      refine lv_icmp_eq (tgt := 45) hx hb dX8_type_32 (by decide) (fun c_32 => ?_) (fun c_32 => ?_)
      · rw [if_pos c_32] at hf
        exact w_X8_type_45 hm hR hK hD σ hf _ _ _ hP hS (lv_sub hl [] rfl)
      · rw [if_neg c_32] at hf
        refine lv_aload_n hx hb dX8_type_35 rfl (lv_at hl 0 rfl) ?_
        refine va_get (D := D) (ci := 7) (v := .ref (ad 1)) (C := RX8) (T := TX8) (N := 50) hx hb hts in_X8_type_X8 hown hK hP 0 (wM_0 _ _ _ _ _) rfl 1 (by decide) (hts (.fieldLink RX8 7 "CallGraphsModel" "kindOf" "[I") (List.mem_of_getElem? (i := 1) rfl)) (fun _ h9 => h9) (fM_0_1 _ _) dX8_type_36 ?_
        refine lv_iload_n hx hb dX8_type_39 rfl (lv_at hl 2 rfl) ?_
        obtain ⟨h_40, hf⟩ := oi_e hf
        refine va_iald hx hb hK hP 1 0 (wM_1 _ _ _ _ _) rfl h_40 dX8_type_40 ?_
        refine lv_iconst (v := 2) hx hb dX8_type_41 (by decide) ?_
        refine lv_icmp_ne (tgt := 48) hx hb dX8_type_42 (by decide) (fun c_42 => ?_) (fun c_42 => ?_)
        · rw [if_neg c_42] at hf
          exact w_X8_type_48 hm hR hK hD v1 v2 σ hf _ _ _ hP hS (lv_sub hl [0, 1, 2] rfl)
        · rw [if_pos c_42] at hf
          exact w_X8_type_45 hm hR hK hD σ hf _ _ _ hP hS (lv_sub hl [] rfl)
def p_X8_type_0 (v1 : Int32) (v2 : Int32) (σ : SS) : Option (Int32 × SS) := if v2 = (-1) then p_X8_type_16 v1 v2 σ else oc (p_X8_isType_0 σ v2) (fun r_7 => if r_7 = 0 then some ((-101), σ) else p_X8_type_16 v1 v2 σ)
set_option maxHeartbeats 4000000 in
set_option maxRecDepth 100000 in
theorem w_X8_type_0 {p : Program} {l : Launch} {e : Env} {R : Room} {s : State} {m : MethodId} {args : Array Value} {below : List Frame} {meth : Method} {c : Code} {D : va_G} {ad : Nat → Nat} {cI cJ cZ : ClassId} {res : Int32 × SS} (hm : mx p s m args meth c cX8_type 3 (some .int) wsX8_type RX8) (hR : 2 ≤ R.frames ∧ 43 ≤ R.locals) (hK : va_K D vwCl (tyw cI cJ cZ) s) (hD : ∀ σ, va_D (aM ad) (wM ad cI cJ cZ σ)) (v1 : Int32) (v2 : Int32) (σ : SS) (hf : p_X8_type_0 v1 v2 σ = some res) (H : Heap) (locs : List Loc) (ls : Array Slot) (hP : va_P D vwCl (wM ad cI cJ cZ σ) H) (hS : va_S (aM ad) s.heap H locs) (hl : lv_has ls 3 [(0, .ref (ad 0)), (1, .int v1), (2, .int v2)]) : W p l e R s m args below meth c H locs 0 0 (MQ below (va_Qi (fun (r : Int32) (u : SS) => (r, u) = res) (fun u t => va_P D vwCl (wM ad cI cJ cZ u) t.heap) (aM ad)) args s 0 0 (aM ad)) (F0 m 0 ls []) := by
  obtain ⟨hx, hb, hr, hml, hown, hts, hlk⟩ := id hm
  unfold p_X8_type_0 at hf
  refine lv_iload_n hx hb dX8_type_0 rfl (lv_at hl 2 rfl) ?_
  refine lv_iconst (v := (-1)) hx hb dX8_type_1 (by decide) ?_
  refine lv_icmp_eq (tgt := 16) hx hb dX8_type_2 (by decide) (fun c_2 => ?_) (fun c_2 => ?_)
  · rw [if_pos c_2] at hf
    exact w_X8_type_16 hm hR hK hD v1 v2 σ hf _ _ _ hP hS (lv_sub hl [0, 1, 2] rfl)
  · rw [if_neg c_2] at hf
    refine lv_aload_n hx hb dX8_type_5 rfl (lv_at hl 0 rfl) ?_
    refine lv_iload_n hx hb dX8_type_6 rfl (lv_at hl 2 rfl) ?_
    obtain ⟨r_7, hg_7, hf⟩ := oc_e hf
    refine mV_ri (wd := wM ad cI cJ cZ) (σ := σ) (As := [.int v2]) (rest := []) ⟨hx, hb, hml, hown, hts⟩ hK hP hD hS (c_X8_isType l D ad cI cJ cZ σ v2 hg_7) (cwV 1 hts gX8_type_X8_isType rfl rfl rfl hd_X8_isType ⟨Nat.le_trans (Nat.le_of_ble_eq_true rfl) hR.1, Nat.le_trans (Nat.le_of_ble_eq_true rfl) hR.2⟩) rfl (wM_0 _ _ _ _ _) rfl hl.1 rfl (Nat.le_of_ble_eq_true rfl) dX8_type_7 (fun H locs hP hS => ?_)
    refine lv_if_ne (tgt := 16) hx hb dX8_type_10 (by decide) (fun c_10 => ?_) (fun c_10 => ?_)
    · rw [if_neg c_10] at hf
      exact w_X8_type_16 hm hR hK hD v1 v2 σ hf _ _ _ hP hS (lv_sub hl [0, 1, 2] rfl)
    · rw [if_pos c_10] at hf
      refine lv_bipush (v := (-101)) hx hb dX8_type_13 (by decide) ?_
      exact rt_i (wd := wM ad cI cJ cZ) hx hb hr hlk (Option.some.inj hf) hP hS dX8_type_15
theorem hd_X8_type : yX8_type.cls = RX8 ∧ yX8_type.cls ≠ "java/lang/invoke/MethodHandle" ∧ yX8_type.cls ≠ "java/lang/invoke/VarHandle" ∧ (parseMethodDescriptor yX8_type.desc).map (fun d => d.parameters.length) = some 2 := by decide +kernel
set_option maxHeartbeats 4000000 in
set_option maxRecDepth 100000 in
theorem c_X8_type (l : Launch) (D : va_G) (ad : Nat → Nat) (cI cJ cZ : ClassId) (σ : SS) (v1 : Int32) (v2 : Int32) {res : Int32 × SS} (hf : p_X8_type_0 v1 v2 σ = some res) : Met l yX8_type wsX8_type ({ frames := 2, cells := 0, slots := 0, locals := 43 } : Room) (PW D (tyw cI cJ cZ) (wM ad cI cJ cZ σ) [.ref (ad 0), .int v1, .int v2]) (va_Qi (fun (r : Int32) (u : SS) => (r, u) = res) (fun u t => va_P D vwCl (wM ad cI cJ cZ u) t.heap) (aM ad)) 0 0 (aM ad) := by
  refine Met.ofW (cc := cX8_type) (maxL := 3) (ret := (some .int)) (by decide) rfl ?_
  intro p e s m args below meth c s₁ B hml hv
  obtain ⟨rfl, hP, hK, hD0⟩ := hv
  have hD : ∀ σ, va_D (aM ad) (wM ad cI cJ cZ σ) := fun σ => wd_D hD0 (wM_map _ _ _ _ _) (wM_map _ _ _ _ _)
  have hm : mx p s m _ meth c cX8_type 3 (some .int) wsX8_type RX8 := ⟨B.exec, B.bytes, B.returns, hml, findClass_of_methodNamed B.named, atoms_spec (ws := wsX8_type) B.pre, B.notSynchronized⟩
  have hl := lv_entry ([.ref (ad 0), .int v1, .int v2]) (n := 3) (Nat.le_of_ble_eq_true rfl)
  rw [lg_entry_eq]
  generalize (lg_sl ([.ref (ad 0), .int v1, .int v2]) ++ List.replicate (3 - (lg_sl ([.ref (ad 0), .int v1, .int v2])).length) Slot.unset).toArray = ls at hl ⊢
  exact w_X8_type_0 hm ⟨Nat.le_refl _, Nat.le_refl _⟩ hK hD v1 v2 σ hf _ _ _ hP va_S.rf hl
/-! CallGraphsModel.face(II)I -/
theorem in_X8_face_X8 : ∀ w ∈ u_ws RX8 TX8 50, w ∈ wsX8_face := fun w h => List.mem_cons_of_mem _ (List.mem_append_right _ h)
def p_X8_face_16 (σ : SS) : Option (Int32 × SS) := some ((-101), σ)
set_option maxHeartbeats 4000000 in
set_option maxRecDepth 100000 in
theorem w_X8_face_16 {p : Program} {l : Launch} {e : Env} {R : Room} {s : State} {m : MethodId} {args : Array Value} {below : List Frame} {meth : Method} {c : Code} {D : va_G} {ad : Nat → Nat} {cI cJ cZ : ClassId} {res : Int32 × SS} (hm : mx p s m args meth c cX8_face 4 (some .int) wsX8_face RX8) (hR : 2 ≤ R.frames ∧ 43 ≤ R.locals) (hK : va_K D vwCl (tyw cI cJ cZ) s) (hD : ∀ σ, va_D (aM ad) (wM ad cI cJ cZ σ)) (σ : SS) (hf : p_X8_face_16 σ = some res) (H : Heap) (locs : List Loc) (ls : Array Slot) (hP : va_P D vwCl (wM ad cI cJ cZ σ) H) (hS : va_S (aM ad) s.heap H locs) (hl : lv_has ls 4 []) : W p l e R s m args below meth c H locs 0 0 (MQ below (va_Qi (fun (r : Int32) (u : SS) => (r, u) = res) (fun u t => va_P D vwCl (wM ad cI cJ cZ u) t.heap) (aM ad)) args s 0 0 (aM ad)) (F0 m 16 ls []) := by
  obtain ⟨hx, hb, hr, hml, hown, hts, hlk⟩ := id hm
  unfold p_X8_face_16 at hf
  refine lv_bipush (v := (-101)) hx hb dX8_face_16 (by decide) ?_
  exact rt_i (wd := wM ad cI cJ cZ) hx hb hr hlk (Option.some.inj hf) hP hS dX8_face_18
def p_X8_face_34 (σ : SS) : Option (Int32 × SS) := some ((-102), σ)
set_option maxHeartbeats 4000000 in
set_option maxRecDepth 100000 in
theorem w_X8_face_34 {p : Program} {l : Launch} {e : Env} {R : Room} {s : State} {m : MethodId} {args : Array Value} {below : List Frame} {meth : Method} {c : Code} {D : va_G} {ad : Nat → Nat} {cI cJ cZ : ClassId} {res : Int32 × SS} (hm : mx p s m args meth c cX8_face 4 (some .int) wsX8_face RX8) (hR : 2 ≤ R.frames ∧ 43 ≤ R.locals) (hK : va_K D vwCl (tyw cI cJ cZ) s) (hD : ∀ σ, va_D (aM ad) (wM ad cI cJ cZ σ)) (σ : SS) (hf : p_X8_face_34 σ = some res) (H : Heap) (locs : List Loc) (ls : Array Slot) (hP : va_P D vwCl (wM ad cI cJ cZ σ) H) (hS : va_S (aM ad) s.heap H locs) (hl : lv_has ls 4 []) : W p l e R s m args below meth c H locs 0 0 (MQ below (va_Qi (fun (r : Int32) (u : SS) => (r, u) = res) (fun u t => va_P D vwCl (wM ad cI cJ cZ u) t.heap) (aM ad)) args s 0 0 (aM ad)) (F0 m 34 ls []) := by
  obtain ⟨hx, hb, hr, hml, hown, hts, hlk⟩ := id hm
  unfold p_X8_face_34 at hf
  refine lv_bipush (v := (-102)) hx hb dX8_face_34 (by decide) ?_
  exact rt_i (wd := wM ad cI cJ cZ) hx hb hr hlk (Option.some.inj hf) hP hS dX8_face_36
def p_X8_face_39 : Nat → Int32 → Int32 → Int32 → SS → Option (Int32 × SS)
  | 0, _, _, _, _ => none
  | n + 1, v1, v2, v3, σ => let k39 := p_X8_face_39 n; oi v1 16 (if (σ.1 3 v1.toNatClampNeg) ≤ v3 then oi v1 16 (if (σ.1 3 v1.toNatClampNeg) = 3 then some ((-104), σ) else oi v1 16 (oi ((3 * v1) + (σ.1 3 v1.toNatClampNeg)) 48 (os (sI σ 4 (((3 * v1) + (σ.1 3 v1.toNatClampNeg)).toNatClampNeg) v2) (fun s_100 => oi v1 16 (oi v1 16 (os (sI s_100 3 (v1.toNatClampNeg) ((s_100.1 3 v1.toNatClampNeg) + 1)) (fun s_110 => os (sI s_110 0 16 0) (fun s_113 => os (sI s_113 0 26 0) (fun s_118 => oi v1 16 (some ((s_118.1 3 v1.toNatClampNeg), s_118))))))))))) else oi ((3 * v1) + v3) 48 (if (σ.1 4 ((3 * v1) + v3).toNatClampNeg) = v2 then some ((-103), σ) else k39 v1 v2 (v3 + 1) σ))
set_option maxHeartbeats 4000000 in
set_option maxRecDepth 100000 in
theorem w_X8_face_39 {p : Program} {l : Launch} {e : Env} {R : Room} {s : State} {m : MethodId} {args : Array Value} {below : List Frame} {meth : Method} {c : Code} {D : va_G} {ad : Nat → Nat} {cI cJ cZ : ClassId} {res : Int32 × SS} (hm : mx p s m args meth c cX8_face 4 (some .int) wsX8_face RX8) (hR : 2 ≤ R.frames ∧ 43 ≤ R.locals) (hK : va_K D vwCl (tyw cI cJ cZ) s) (hD : ∀ σ, va_D (aM ad) (wM ad cI cJ cZ σ)) : ∀ (n : Nat) (v1 : Int32) (v2 : Int32) (v3 : Int32) (σ : SS), p_X8_face_39 n v1 v2 v3 σ = some res → ∀ (H : Heap) (locs : List Loc) (ls : Array Slot), va_P D vwCl (wM ad cI cJ cZ σ) H → va_S (aM ad) s.heap H locs → lv_has ls 4 [(0, .ref (ad 0)), (1, .int v1), (2, .int v2), (3, .int v3)] → W p l e R s m args below meth c H locs 0 0 (MQ below (va_Qi (fun (r : Int32) (u : SS) => (r, u) = res) (fun u t => va_P D vwCl (wM ad cI cJ cZ u) t.heap) (aM ad)) args s 0 0 (aM ad)) (F0 m 39 ls []) := by
  obtain ⟨hx, hb, hr, hml, hown, hts, hlk⟩ := id hm
  intro n
  induction n with
  | zero =>
    intro _ _ _ _ hf
    cases hf
  | succ n hk39 =>
    intro v1 v2 v3 σ hf H locs ls hP hS hl
    rw [p_X8_face_39] at hf
    try dsimp only at hf
    refine lv_iload_n hx hb dX8_face_39 rfl (lv_at hl 3 rfl) ?_
    refine lv_aload_n hx hb dX8_face_40 rfl (lv_at hl 0 rfl) ?_
    refine va_get (D := D) (ci := 7) (v := .ref (ad 3)) (C := RX8) (T := TX8) (N := 50) hx hb hts in_X8_face_X8 hown hK hP 0 (wM_0 _ _ _ _ _) rfl 3 (by decide) (hts (.fieldLink RX8 16 "CallGraphsModel" "faceMany" "[I") (List.mem_of_getElem? (i := 2) rfl)) (fun _ h9 => h9) (fM_0_3 _ _) dX8_face_41 ?_
    refine lv_iload_n hx hb dX8_face_44 rfl (lv_at hl 1 rfl) ?_
    obtain ⟨h_45, hf⟩ := oi_e hf
    refine va_iald hx hb hK hP 3 0 (wM_3 _ _ _ _ _) rfl h_45 dX8_face_45 ?_
    refine lv_icmp_ge (tgt := 72) hx hb dX8_face_46 (by decide) (fun c_46 => ?_) (fun c_46 => ?_)
    · rw [if_pos c_46] at hf
      refine lv_aload_n hx hb dX8_face_72 rfl (lv_at hl 0 rfl) ?_
      refine va_get (D := D) (ci := 7) (v := .ref (ad 3)) (C := RX8) (T := TX8) (N := 50) hx hb hts in_X8_face_X8 hown hK hP 0 (wM_0 _ _ _ _ _) rfl 3 (by decide) (hts (.fieldLink RX8 16 "CallGraphsModel" "faceMany" "[I") (List.mem_of_getElem? (i := 2) rfl)) (fun _ h9 => h9) (fM_0_3 _ _) dX8_face_73 ?_
      refine lv_iload_n hx hb dX8_face_76 rfl (lv_at hl 1 rfl) ?_
      obtain ⟨h_77, hf⟩ := oi_e hf
      refine va_iald hx hb hK hP 3 0 (wM_3 _ _ _ _ _) rfl h_77 dX8_face_77 ?_
      refine lv_iconst (v := 3) hx hb dX8_face_78 (by decide) ?_
      refine lv_icmp_ne (tgt := 85) hx hb dX8_face_79 (by decide) (fun c_79 => ?_) (fun c_79 => ?_)
      · rw [if_neg c_79] at hf
        refine lv_aload_n hx hb dX8_face_85 rfl (lv_at hl 0 rfl) ?_
        refine va_get (D := D) (ci := 7) (v := .ref (ad 4)) (C := RX8) (T := TX8) (N := 50) hx hb hts in_X8_face_X8 hown hK hP 0 (wM_0 _ _ _ _ _) rfl 4 (by decide) (hts (.fieldLink RX8 19 "CallGraphsModel" "faceOf" "[I") (List.mem_of_getElem? (i := 3) rfl)) (fun _ h9 => h9) (fM_0_4 _ _) dX8_face_86 ?_
        refine lv_iconst (v := 3) hx hb dX8_face_89 (by decide) ?_
        refine lv_iload_n hx hb dX8_face_90 rfl (lv_at hl 1 rfl) ?_
        refine lv_imul hx hb dX8_face_91 ?_
        refine lv_aload_n hx hb dX8_face_92 rfl (lv_at hl 0 rfl) ?_
        refine va_get (D := D) (ci := 7) (v := .ref (ad 3)) (C := RX8) (T := TX8) (N := 50) hx hb hts in_X8_face_X8 hown hK hP 0 (wM_0 _ _ _ _ _) rfl 3 (by decide) (hts (.fieldLink RX8 16 "CallGraphsModel" "faceMany" "[I") (List.mem_of_getElem? (i := 2) rfl)) (fun _ h9 => h9) (fM_0_3 _ _) dX8_face_93 ?_
        refine lv_iload_n hx hb dX8_face_96 rfl (lv_at hl 1 rfl) ?_
        obtain ⟨h_97, hf⟩ := oi_e hf
        refine va_iald hx hb hK hP 3 0 (wM_3 _ _ _ _ _) rfl h_97 dX8_face_97 ?_
        refine lv_iadd hx hb dX8_face_98 ?_
        refine lv_iload_n hx hb dX8_face_99 rfl (lv_at hl 2 rfl) ?_
        obtain ⟨h_100, hf⟩ := oi_e hf
        refine va_iast hx hb hK hP (hD _) hS 4 0 (wM_4 _ _ _ _ _) rfl h_100 dX8_face_100 (fun H locs hP _ hS => ?_)
        have hP := wM_s4 hP
        obtain ⟨s_100, es_100, hf⟩ := os_e hf
        rw [← es_100] at hP
        refine lv_aload_n hx hb dX8_face_101 rfl (lv_at hl 0 rfl) ?_
        refine va_get (D := D) (ci := 7) (v := .ref (ad 3)) (C := RX8) (T := TX8) (N := 50) hx hb hts in_X8_face_X8 hown hK hP 0 (wM_0 _ _ _ _ _) rfl 3 (by decide) (hts (.fieldLink RX8 16 "CallGraphsModel" "faceMany" "[I") (List.mem_of_getElem? (i := 2) rfl)) (fun _ h9 => h9) (fM_0_3 _ _) dX8_face_102 ?_
        refine lv_iload_n hx hb dX8_face_105 rfl (lv_at hl 1 rfl) ?_
        refine lv_dup2_11 hx hb dX8_face_106 rfl rfl ?_
        obtain ⟨h_107, hf⟩ := oi_e hf
        refine va_iald hx hb hK hP 3 0 (wM_3 _ _ _ _ _) rfl h_107 dX8_face_107 ?_
        refine lv_iconst (v := 1) hx hb dX8_face_108 (by decide) ?_
        refine lv_iadd hx hb dX8_face_109 ?_
        obtain ⟨h_110, hf⟩ := oi_e hf
        refine va_iast hx hb hK hP (hD _) hS 3 0 (wM_3 _ _ _ _ _) rfl h_110 dX8_face_110 (fun H locs hP _ hS => ?_)
        have hP := wM_s3 hP
        obtain ⟨s_110, es_110, hf⟩ := os_e hf
        rw [← es_110] at hP
        refine lv_aload_n hx hb dX8_face_111 rfl (lv_at hl 0 rfl) ?_
        refine lv_iconst (v := 0) hx hb dX8_face_112 (by decide) ?_
        refine va_put (D := D) (ci := 7) (v := .int 0) (ty := .boolean) (C := RX8) (T := TX8) (N := 50) hx hb hts in_X8_face_X8 tyX8 tyX8_ok nmX8 hown hK hP (hD _) hS 0 (wM_0 _ _ _ _ _) rfl 16 (by decide) (hts (.fieldLink RX8 119 "CallGraphsModel" "isFresh" "Z") (List.mem_of_getElem? (i := 4) rfl)) (fun _ h9 => h9) rfl (tyX8_ok 16 (by decide)) (nb_n (Or.inl rfl)) (nb_f (Or.inl rfl)) (Nat.le_of_ble_eq_true rfl) dX8_face_113 (fun H locs hP _ hS => ?_)
        have hP := wM_p0_16 hP
        obtain ⟨s_113, es_113, hf⟩ := os_e hf
        rw [← es_113] at hP
        refine lv_aload_n hx hb dX8_face_116 rfl (lv_at hl 0 rfl) ?_
        refine lv_iconst (v := 0) hx hb dX8_face_117 (by decide) ?_
        refine va_put (D := D) (ci := 7) (v := .int 0) (ty := .boolean) (C := RX8) (T := TX8) (N := 50) hx hb hts in_X8_face_X8 tyX8 tyX8_ok nmX8 hown hK hP (hD _) hS 0 (wM_0 _ _ _ _ _) rfl 26 (by decide) (hts (.fieldLink RX8 134 "CallGraphsModel" "isLaid" "Z") (List.mem_of_getElem? (i := 5) rfl)) (fun _ h9 => h9) rfl (tyX8_ok 26 (by decide)) (nb_n (Or.inl rfl)) (nb_f (Or.inl rfl)) (Nat.le_of_ble_eq_true rfl) dX8_face_118 (fun H locs hP _ hS => ?_)
        have hP := wM_p0_26 hP
        obtain ⟨s_118, es_118, hf⟩ := os_e hf
        rw [← es_118] at hP
        refine lv_aload_n hx hb dX8_face_121 rfl (lv_at hl 0 rfl) ?_
        refine va_get (D := D) (ci := 7) (v := .ref (ad 3)) (C := RX8) (T := TX8) (N := 50) hx hb hts in_X8_face_X8 hown hK hP 0 (wM_0 _ _ _ _ _) rfl 3 (by decide) (hts (.fieldLink RX8 16 "CallGraphsModel" "faceMany" "[I") (List.mem_of_getElem? (i := 2) rfl)) (fun _ h9 => h9) (fM_0_3 _ _) dX8_face_122 ?_
        refine lv_iload_n hx hb dX8_face_125 rfl (lv_at hl 1 rfl) ?_
        obtain ⟨h_126, hf⟩ := oi_e hf
        refine va_iald hx hb hK hP 3 0 (wM_3 _ _ _ _ _) rfl h_126 dX8_face_126 ?_
        exact rt_i (wd := wM ad cI cJ cZ) hx hb hr hlk (Option.some.inj hf) hP hS dX8_face_127
      · rw [if_pos c_79] at hf
        refine lv_bipush (v := (-104)) hx hb dX8_face_82 (by decide) ?_
        exact rt_i (wd := wM ad cI cJ cZ) hx hb hr hlk (Option.some.inj hf) hP hS dX8_face_84
    · rw [if_neg c_46] at hf
      refine lv_aload_n hx hb dX8_face_49 rfl (lv_at hl 0 rfl) ?_
      refine va_get (D := D) (ci := 7) (v := .ref (ad 4)) (C := RX8) (T := TX8) (N := 50) hx hb hts in_X8_face_X8 hown hK hP 0 (wM_0 _ _ _ _ _) rfl 4 (by decide) (hts (.fieldLink RX8 19 "CallGraphsModel" "faceOf" "[I") (List.mem_of_getElem? (i := 3) rfl)) (fun _ h9 => h9) (fM_0_4 _ _) dX8_face_50 ?_
      refine lv_iconst (v := 3) hx hb dX8_face_53 (by decide) ?_
      refine lv_iload_n hx hb dX8_face_54 rfl (lv_at hl 1 rfl) ?_
      refine lv_imul hx hb dX8_face_55 ?_
      refine lv_iload_n hx hb dX8_face_56 rfl (lv_at hl 3 rfl) ?_
      refine lv_iadd hx hb dX8_face_57 ?_
      obtain ⟨h_58, hf⟩ := oi_e hf
      refine va_iald hx hb hK hP 4 0 (wM_4 _ _ _ _ _) rfl h_58 dX8_face_58 ?_
      refine lv_iload_n hx hb dX8_face_59 rfl (lv_at hl 2 rfl) ?_
      refine lv_icmp_ne (tgt := 66) hx hb dX8_face_60 (by decide) (fun c_60 => ?_) (fun c_60 => ?_)
      · rw [if_neg c_60] at hf
        refine lv_iinc (v := (v3 + 1)) (lv' := [(3, .int (v3 + 1)), (0, .ref (ad 0)), (1, .int v1), (2, .int v2)]) hx hb dX8_face_66 hl (k := 3) rfl rfl (by decide) rfl (fun ls hl => ?_)
        refine lv_goto (tgt := 39) hx hb dX8_face_69 (by decide) ?_
        exact hk39 v1 v2 (v3 + 1) σ hf _ _ _ hP hS (lv_sub hl [1, 2, 3, 0] rfl)
      · rw [if_pos c_60] at hf
        refine lv_bipush (v := (-103)) hx hb dX8_face_63 (by decide) ?_
        exact rt_i (wd := wM ad cI cJ cZ) hx hb hr hlk (Option.some.inj hf) hP hS dX8_face_65
def p_X8_face_0 (v1 : Int32) (v2 : Int32) (σ : SS) : Option (Int32 × SS) := oc (p_X8_isType_0 σ v1) (fun r_2 => if r_2 = 0 then p_X8_face_16 σ else oc (p_X8_isType_0 σ v2) (fun r_10 => if r_10 = 0 then p_X8_face_16 σ else oi v2 16 (if (σ.1 1 v2.toNatClampNeg) = 2 then if v2 < v1 then p_X8_face_39 100000 v1 v2 0 σ else p_X8_face_34 σ else p_X8_face_34 σ)))
set_option maxHeartbeats 4000000 in
set_option maxRecDepth 100000 in
theorem w_X8_face_0 {p : Program} {l : Launch} {e : Env} {R : Room} {s : State} {m : MethodId} {args : Array Value} {below : List Frame} {meth : Method} {c : Code} {D : va_G} {ad : Nat → Nat} {cI cJ cZ : ClassId} {res : Int32 × SS} (hm : mx p s m args meth c cX8_face 4 (some .int) wsX8_face RX8) (hR : 2 ≤ R.frames ∧ 43 ≤ R.locals) (hK : va_K D vwCl (tyw cI cJ cZ) s) (hD : ∀ σ, va_D (aM ad) (wM ad cI cJ cZ σ)) (v1 : Int32) (v2 : Int32) (σ : SS) (hf : p_X8_face_0 v1 v2 σ = some res) (H : Heap) (locs : List Loc) (ls : Array Slot) (hP : va_P D vwCl (wM ad cI cJ cZ σ) H) (hS : va_S (aM ad) s.heap H locs) (hl : lv_has ls 4 [(0, .ref (ad 0)), (1, .int v1), (2, .int v2)]) : W p l e R s m args below meth c H locs 0 0 (MQ below (va_Qi (fun (r : Int32) (u : SS) => (r, u) = res) (fun u t => va_P D vwCl (wM ad cI cJ cZ u) t.heap) (aM ad)) args s 0 0 (aM ad)) (F0 m 0 ls []) := by
  obtain ⟨hx, hb, hr, hml, hown, hts, hlk⟩ := id hm
  unfold p_X8_face_0 at hf
  refine lv_aload_n hx hb dX8_face_0 rfl (lv_at hl 0 rfl) ?_
  refine lv_iload_n hx hb dX8_face_1 rfl (lv_at hl 1 rfl) ?_
  obtain ⟨r_2, hg_2, hf⟩ := oc_e hf
  refine mV_ri (wd := wM ad cI cJ cZ) (σ := σ) (As := [.int v1]) (rest := []) ⟨hx, hb, hml, hown, hts⟩ hK hP hD hS (c_X8_isType l D ad cI cJ cZ σ v1 hg_2) (cwV 1 hts gX8_face_X8_isType rfl rfl rfl hd_X8_isType ⟨Nat.le_trans (Nat.le_of_ble_eq_true rfl) hR.1, Nat.le_trans (Nat.le_of_ble_eq_true rfl) hR.2⟩) rfl (wM_0 _ _ _ _ _) rfl hl.1 rfl (Nat.le_of_ble_eq_true rfl) dX8_face_2 (fun H locs hP hS => ?_)
  refine lv_if_eq (tgt := 16) hx hb dX8_face_5 (by decide) (fun c_5 => ?_) (fun c_5 => ?_)
  · rw [if_pos c_5] at hf
    exact w_X8_face_16 hm hR hK hD σ hf _ _ _ hP hS (lv_sub hl [] rfl)
  · rw [if_neg c_5] at hf
    refine lv_aload_n hx hb dX8_face_8 rfl (lv_at hl 0 rfl) ?_
    refine lv_iload_n hx hb dX8_face_9 rfl (lv_at hl 2 rfl) ?_
    obtain ⟨r_10, hg_10, hf⟩ := oc_e hf
    refine mV_ri (wd := wM ad cI cJ cZ) (σ := σ) (As := [.int v2]) (rest := []) ⟨hx, hb, hml, hown, hts⟩ hK hP hD hS (c_X8_isType l D ad cI cJ cZ σ v2 hg_10) (cwV 1 hts gX8_face_X8_isType rfl rfl rfl hd_X8_isType ⟨Nat.le_trans (Nat.le_of_ble_eq_true rfl) hR.1, Nat.le_trans (Nat.le_of_ble_eq_true rfl) hR.2⟩) rfl (wM_0 _ _ _ _ _) rfl hl.1 rfl (Nat.le_of_ble_eq_true rfl) dX8_face_10 (fun H locs hP hS => ?_)
    refine lv_if_ne (tgt := 19) hx hb dX8_face_13 (by decide) (fun c_13 => ?_) (fun c_13 => ?_)
    · rw [if_neg c_13] at hf
      refine lv_aload_n hx hb dX8_face_19 rfl (lv_at hl 0 rfl) ?_
      refine va_get (D := D) (ci := 7) (v := .ref (ad 1)) (C := RX8) (T := TX8) (N := 50) hx hb hts in_X8_face_X8 hown hK hP 0 (wM_0 _ _ _ _ _) rfl 1 (by decide) (hts (.fieldLink RX8 7 "CallGraphsModel" "kindOf" "[I") (List.mem_of_getElem? (i := 1) rfl)) (fun _ h9 => h9) (fM_0_1 _ _) dX8_face_20 ?_
      refine lv_iload_n hx hb dX8_face_23 rfl (lv_at hl 2 rfl) ?_
      obtain ⟨h_24, hf⟩ := oi_e hf
      refine va_iald hx hb hK hP 1 0 (wM_1 _ _ _ _ _) rfl h_24 dX8_face_24 ?_
      refine lv_iconst (v := 2) hx hb dX8_face_25 (by decide) ?_
      refine lv_icmp_ne (tgt := 34) hx hb dX8_face_26 (by decide) (fun c_26 => ?_) (fun c_26 => ?_)
      · rw [if_neg c_26] at hf
        exact w_X8_face_34 hm hR hK hD σ hf _ _ _ hP hS (lv_sub hl [] rfl)
      · rw [if_pos c_26] at hf
        refine lv_iload_n hx hb dX8_face_29 rfl (lv_at hl 2 rfl) ?_
        refine lv_iload_n hx hb dX8_face_30 rfl (lv_at hl 1 rfl) ?_
        refine lv_icmp_lt (tgt := 37) hx hb dX8_face_31 (by decide) (fun c_31 => ?_) (fun c_31 => ?_)
        · rw [if_pos c_31] at hf
          refine lv_iconst (v := 0) hx hb dX8_face_37 (by decide) ?_
          refine lv_istore_n (lv' := [(3, .int 0), (0, .ref (ad 0)), (1, .int v1), (2, .int v2)]) hx hb dX8_face_38 rfl hl (by decide) rfl (fun ls hl => ?_)
          exact w_X8_face_39 hm hR hK hD 100000 v1 v2 0 σ hf _ _ _ hP hS (lv_sub hl [1, 2, 3, 0] rfl)
        · rw [if_neg c_31] at hf
          exact w_X8_face_34 hm hR hK hD σ hf _ _ _ hP hS (lv_sub hl [] rfl)
    · rw [if_pos c_13] at hf
      exact w_X8_face_16 hm hR hK hD σ hf _ _ _ hP hS (lv_sub hl [] rfl)
theorem hd_X8_face : yX8_face.cls = RX8 ∧ yX8_face.cls ≠ "java/lang/invoke/MethodHandle" ∧ yX8_face.cls ≠ "java/lang/invoke/VarHandle" ∧ (parseMethodDescriptor yX8_face.desc).map (fun d => d.parameters.length) = some 2 := by decide +kernel
set_option maxHeartbeats 4000000 in
set_option maxRecDepth 100000 in
theorem c_X8_face (l : Launch) (D : va_G) (ad : Nat → Nat) (cI cJ cZ : ClassId) (σ : SS) (v1 : Int32) (v2 : Int32) {res : Int32 × SS} (hf : p_X8_face_0 v1 v2 σ = some res) : Met l yX8_face wsX8_face ({ frames := 2, cells := 0, slots := 0, locals := 43 } : Room) (PW D (tyw cI cJ cZ) (wM ad cI cJ cZ σ) [.ref (ad 0), .int v1, .int v2]) (va_Qi (fun (r : Int32) (u : SS) => (r, u) = res) (fun u t => va_P D vwCl (wM ad cI cJ cZ u) t.heap) (aM ad)) 0 0 (aM ad) := by
  refine Met.ofW (cc := cX8_face) (maxL := 4) (ret := (some .int)) (by decide) rfl ?_
  intro p e s m args below meth c s₁ B hml hv
  obtain ⟨rfl, hP, hK, hD0⟩ := hv
  have hD : ∀ σ, va_D (aM ad) (wM ad cI cJ cZ σ) := fun σ => wd_D hD0 (wM_map _ _ _ _ _) (wM_map _ _ _ _ _)
  have hm : mx p s m _ meth c cX8_face 4 (some .int) wsX8_face RX8 := ⟨B.exec, B.bytes, B.returns, hml, findClass_of_methodNamed B.named, atoms_spec (ws := wsX8_face) B.pre, B.notSynchronized⟩
  have hl := lv_entry ([.ref (ad 0), .int v1, .int v2]) (n := 4) (Nat.le_of_ble_eq_true rfl)
  rw [lg_entry_eq]
  generalize (lg_sl ([.ref (ad 0), .int v1, .int v2]) ++ List.replicate (4 - (lg_sl ([.ref (ad 0), .int v1, .int v2])).length) Slot.unset).toArray = ls at hl ⊢
  exact w_X8_face_0 hm ⟨Nat.le_refl _, Nat.le_refl _⟩ hK hD v1 v2 σ hf _ _ _ hP va_S.rf hl
/-! CallGraphsModel.ownOf(II)I -/
theorem in_X8_ownOf_X8 : ∀ w ∈ u_ws RX8 TX8 50, w ∈ wsX8_ownOf := fun w h => List.mem_cons_of_mem _ (List.mem_append_right _ h)
def p_X8_ownOf_32 (σ : SS) (k2 : Int32 → Int32 → Int32 → Option (Int32)) (v1 : Int32) (v2 : Int32) (v3 : Int32) : Option (Int32) := k2 v1 v2 (v3 + 1)
set_option maxHeartbeats 4000000 in
set_option maxRecDepth 100000 in
theorem w_X8_ownOf_32 {p : Program} {l : Launch} {e : Env} {R : Room} {s : State} {m : MethodId} {args : Array Value} {below : List Frame} {meth : Method} {c : Code} {D : va_G} {ad : Nat → Nat} {cI cJ cZ : ClassId} {res : Int32} (hm : mx p s m args meth c cX8_ownOf 4 (some .int) wsX8_ownOf RX8) (hR : 0 ≤ R.frames ∧ 0 ≤ R.locals) (hK : va_K D vwCl (tyw cI cJ cZ) s) (hD : ∀ σ, va_D (aM ad) (wM ad cI cJ cZ σ)) (σ : SS) (k2 : Int32 → Int32 → Int32 → Option (Int32)) (hk2 : ∀ (v1 : Int32) (v2 : Int32) (v3 : Int32), k2 v1 v2 v3 = some res → ∀ (H : Heap) (locs : List Loc) (ls : Array Slot), va_P D vwCl (wM ad cI cJ cZ σ) H → va_S (aM ad) s.heap H locs → lv_has ls 4 [(0, .ref (ad 0)), (1, .int v1), (2, .int v2), (3, .int v3)] → W p l e R s m args below meth c H locs 0 0 (MQ below (va_Qi (fun (r : Int32) (u : SS) => r = res ∧ u = σ) (fun u t => va_P D vwCl (wM ad cI cJ cZ u) t.heap) (aM ad)) args s 0 0 (aM ad)) (F0 m 2 ls [])) (v1 : Int32) (v2 : Int32) (v3 : Int32) (hf : p_X8_ownOf_32 σ k2 v1 v2 v3 = some res) (H : Heap) (locs : List Loc) (ls : Array Slot) (hP : va_P D vwCl (wM ad cI cJ cZ σ) H) (hS : va_S (aM ad) s.heap H locs) (hl : lv_has ls 4 [(0, .ref (ad 0)), (1, .int v1), (2, .int v2), (3, .int v3)]) : W p l e R s m args below meth c H locs 0 0 (MQ below (va_Qi (fun (r : Int32) (u : SS) => r = res ∧ u = σ) (fun u t => va_P D vwCl (wM ad cI cJ cZ u) t.heap) (aM ad)) args s 0 0 (aM ad)) (F0 m 32 ls []) := by
  obtain ⟨hx, hb, hr, hml, hown, hts, hlk⟩ := id hm
  unfold p_X8_ownOf_32 at hf
  refine lv_iinc (v := (v3 + 1)) (lv' := [(3, .int (v3 + 1)), (0, .ref (ad 0)), (1, .int v1), (2, .int v2)]) hx hb dX8_ownOf_32 hl (k := 3) rfl rfl (by decide) rfl (fun ls hl => ?_)
  refine lv_goto (tgt := 2) hx hb dX8_ownOf_35 (by decide) ?_
  exact hk2 v1 v2 (v3 + 1) hf _ _ _ hP hS (lv_sub hl [1, 2, 3, 0] rfl)
def p_X8_ownOf_2 (σ : SS) : Nat → Int32 → Int32 → Int32 → Option (Int32)
  | 0, _, _, _ => none
  | n + 1, v1, v2, v3 => let k2 := p_X8_ownOf_2 σ n; if (σ.1 0 5) ≤ v3 then some (-1) else oi v3 48 (if (σ.1 5 v3.toNatClampNeg) = v1 then oi v3 48 (if (σ.1 6 v3.toNatClampNeg) = v2 then some v3 else p_X8_ownOf_32 σ k2 v1 v2 v3) else p_X8_ownOf_32 σ k2 v1 v2 v3)
set_option maxHeartbeats 4000000 in
set_option maxRecDepth 100000 in
theorem w_X8_ownOf_2 {p : Program} {l : Launch} {e : Env} {R : Room} {s : State} {m : MethodId} {args : Array Value} {below : List Frame} {meth : Method} {c : Code} {D : va_G} {ad : Nat → Nat} {cI cJ cZ : ClassId} {res : Int32} (hm : mx p s m args meth c cX8_ownOf 4 (some .int) wsX8_ownOf RX8) (hR : 0 ≤ R.frames ∧ 0 ≤ R.locals) (hK : va_K D vwCl (tyw cI cJ cZ) s) (hD : ∀ σ, va_D (aM ad) (wM ad cI cJ cZ σ)) (σ : SS) : ∀ (n : Nat) (v1 : Int32) (v2 : Int32) (v3 : Int32), p_X8_ownOf_2 σ n v1 v2 v3 = some res → ∀ (H : Heap) (locs : List Loc) (ls : Array Slot), va_P D vwCl (wM ad cI cJ cZ σ) H → va_S (aM ad) s.heap H locs → lv_has ls 4 [(0, .ref (ad 0)), (1, .int v1), (2, .int v2), (3, .int v3)] → W p l e R s m args below meth c H locs 0 0 (MQ below (va_Qi (fun (r : Int32) (u : SS) => r = res ∧ u = σ) (fun u t => va_P D vwCl (wM ad cI cJ cZ u) t.heap) (aM ad)) args s 0 0 (aM ad)) (F0 m 2 ls []) := by
  obtain ⟨hx, hb, hr, hml, hown, hts, hlk⟩ := id hm
  intro n
  induction n with
  | zero =>
    intro _ _ _ hf
    cases hf
  | succ n hk2 =>
    intro v1 v2 v3 hf H locs ls hP hS hl
    rw [p_X8_ownOf_2] at hf
    try dsimp only at hf
    refine lv_iload_n hx hb dX8_ownOf_2 rfl (lv_at hl 3 rfl) ?_
    refine lv_aload_n hx hb dX8_ownOf_3 rfl (lv_at hl 0 rfl) ?_
    refine va_get (D := D) (ci := 7) (v := .int (σ.1 0 5)) (C := RX8) (T := TX8) (N := 50) hx hb hts in_X8_ownOf_X8 hown hK hP 0 (wM_0 _ _ _ _ _) rfl 5 (by decide) (hts (.fieldLink RX8 131 "CallGraphsModel" "members" "I") (List.mem_of_getElem? (i := 1) rfl)) (fun _ h9 => h9) (fM_0_5 _ _) dX8_ownOf_4 ?_
    refine lv_icmp_ge (tgt := 38) hx hb dX8_ownOf_7 (by decide) (fun c_7 => ?_) (fun c_7 => ?_)
    · rw [if_pos c_7] at hf
      refine lv_iconst (v := (-1)) hx hb dX8_ownOf_38 (by decide) ?_
      exact rt_i (wd := wM ad cI cJ cZ) hx hb hr hlk ⟨Option.some.inj hf, rfl⟩ hP hS dX8_ownOf_39
    · rw [if_neg c_7] at hf
      refine lv_aload_n hx hb dX8_ownOf_10 rfl (lv_at hl 0 rfl) ?_
      refine va_get (D := D) (ci := 7) (v := .ref (ad 5)) (C := RX8) (T := TX8) (N := 50) hx hb hts in_X8_ownOf_X8 hown hK hP 0 (wM_0 _ _ _ _ _) rfl 6 (by decide) (hts (.fieldLink RX8 22 "CallGraphsModel" "typeOf" "[I") (List.mem_of_getElem? (i := 2) rfl)) (fun _ h9 => h9) (fM_0_6 _ _) dX8_ownOf_11 ?_
      refine lv_iload_n hx hb dX8_ownOf_14 rfl (lv_at hl 3 rfl) ?_
      obtain ⟨h_15, hf⟩ := oi_e hf
      refine va_iald hx hb hK hP 5 0 (wM_5 _ _ _ _ _) rfl h_15 dX8_ownOf_15 ?_
      refine lv_iload_n hx hb dX8_ownOf_16 rfl (lv_at hl 1 rfl) ?_
      refine lv_icmp_ne (tgt := 32) hx hb dX8_ownOf_17 (by decide) (fun c_17 => ?_) (fun c_17 => ?_)
      · rw [if_neg c_17] at hf
        exact w_X8_ownOf_32 hm hR hK hD σ (p_X8_ownOf_2 σ n) hk2 v1 v2 v3 hf _ _ _ hP hS (lv_sub hl [0, 1, 2, 3] rfl)
      · rw [if_pos c_17] at hf
        refine lv_aload_n hx hb dX8_ownOf_20 rfl (lv_at hl 0 rfl) ?_
        refine va_get (D := D) (ci := 7) (v := .ref (ad 6)) (C := RX8) (T := TX8) (N := 50) hx hb hts in_X8_ownOf_X8 hown hK hP 0 (wM_0 _ _ _ _ _) rfl 7 (by decide) (hts (.fieldLink RX8 25 "CallGraphsModel" "nameOf" "[I") (List.mem_of_getElem? (i := 3) rfl)) (fun _ h9 => h9) (fM_0_7 _ _) dX8_ownOf_21 ?_
        refine lv_iload_n hx hb dX8_ownOf_24 rfl (lv_at hl 3 rfl) ?_
        obtain ⟨h_25, hf⟩ := oi_e hf
        refine va_iald hx hb hK hP 6 0 (wM_6 _ _ _ _ _) rfl h_25 dX8_ownOf_25 ?_
        refine lv_iload_n hx hb dX8_ownOf_26 rfl (lv_at hl 2 rfl) ?_
        refine lv_icmp_ne (tgt := 32) hx hb dX8_ownOf_27 (by decide) (fun c_27 => ?_) (fun c_27 => ?_)
        · rw [if_neg c_27] at hf
          exact w_X8_ownOf_32 hm hR hK hD σ (p_X8_ownOf_2 σ n) hk2 v1 v2 v3 hf _ _ _ hP hS (lv_sub hl [0, 1, 2, 3] rfl)
        · rw [if_pos c_27] at hf
          refine lv_iload_n hx hb dX8_ownOf_30 rfl (lv_at hl 3 rfl) ?_
          exact rt_i (wd := wM ad cI cJ cZ) hx hb hr hlk ⟨Option.some.inj hf, rfl⟩ hP hS dX8_ownOf_31
def p_X8_ownOf_0 (σ : SS) (v1 : Int32) (v2 : Int32) : Option (Int32) := p_X8_ownOf_2 σ 100000 v1 v2 0
set_option maxHeartbeats 4000000 in
set_option maxRecDepth 100000 in
theorem w_X8_ownOf_0 {p : Program} {l : Launch} {e : Env} {R : Room} {s : State} {m : MethodId} {args : Array Value} {below : List Frame} {meth : Method} {c : Code} {D : va_G} {ad : Nat → Nat} {cI cJ cZ : ClassId} {res : Int32} (hm : mx p s m args meth c cX8_ownOf 4 (some .int) wsX8_ownOf RX8) (hR : 0 ≤ R.frames ∧ 0 ≤ R.locals) (hK : va_K D vwCl (tyw cI cJ cZ) s) (hD : ∀ σ, va_D (aM ad) (wM ad cI cJ cZ σ)) (σ : SS) (v1 : Int32) (v2 : Int32) (hf : p_X8_ownOf_0 σ v1 v2 = some res) (H : Heap) (locs : List Loc) (ls : Array Slot) (hP : va_P D vwCl (wM ad cI cJ cZ σ) H) (hS : va_S (aM ad) s.heap H locs) (hl : lv_has ls 4 [(0, .ref (ad 0)), (1, .int v1), (2, .int v2)]) : W p l e R s m args below meth c H locs 0 0 (MQ below (va_Qi (fun (r : Int32) (u : SS) => r = res ∧ u = σ) (fun u t => va_P D vwCl (wM ad cI cJ cZ u) t.heap) (aM ad)) args s 0 0 (aM ad)) (F0 m 0 ls []) := by
  obtain ⟨hx, hb, hr, hml, hown, hts, hlk⟩ := id hm
  unfold p_X8_ownOf_0 at hf
  refine lv_iconst (v := 0) hx hb dX8_ownOf_0 (by decide) ?_
  refine lv_istore_n (lv' := [(3, .int 0), (0, .ref (ad 0)), (1, .int v1), (2, .int v2)]) hx hb dX8_ownOf_1 rfl hl (by decide) rfl (fun ls hl => ?_)
  exact w_X8_ownOf_2 hm hR hK hD σ 100000 v1 v2 0 hf _ _ _ hP hS (lv_sub hl [1, 2, 3, 0] rfl)
theorem hd_X8_ownOf : yX8_ownOf.cls = RX8 ∧ yX8_ownOf.cls ≠ "java/lang/invoke/MethodHandle" ∧ yX8_ownOf.cls ≠ "java/lang/invoke/VarHandle" ∧ (parseMethodDescriptor yX8_ownOf.desc).map (fun d => d.parameters.length) = some 2 := by decide +kernel
set_option maxHeartbeats 4000000 in
set_option maxRecDepth 100000 in
theorem c_X8_ownOf (l : Launch) (D : va_G) (ad : Nat → Nat) (cI cJ cZ : ClassId) (σ : SS) (v1 : Int32) (v2 : Int32) {res : Int32} (hf : p_X8_ownOf_0 σ v1 v2 = some res) : Met l yX8_ownOf wsX8_ownOf ({ frames := 0, cells := 0, slots := 0, locals := 0 } : Room) (PW D (tyw cI cJ cZ) (wM ad cI cJ cZ σ) [.ref (ad 0), .int v1, .int v2]) (va_Qi (fun (r : Int32) (u : SS) => r = res ∧ u = σ) (fun u t => va_P D vwCl (wM ad cI cJ cZ u) t.heap) (aM ad)) 0 0 (aM ad) := by
  refine Met.ofW (cc := cX8_ownOf) (maxL := 4) (ret := (some .int)) (by decide) rfl ?_
  intro p e s m args below meth c s₁ B hml hv
  obtain ⟨rfl, hP, hK, hD0⟩ := hv
  have hD : ∀ σ, va_D (aM ad) (wM ad cI cJ cZ σ) := fun σ => wd_D hD0 (wM_map _ _ _ _ _) (wM_map _ _ _ _ _)
  have hm : mx p s m _ meth c cX8_ownOf 4 (some .int) wsX8_ownOf RX8 := ⟨B.exec, B.bytes, B.returns, hml, findClass_of_methodNamed B.named, atoms_spec (ws := wsX8_ownOf) B.pre, B.notSynchronized⟩
  have hl := lv_entry ([.ref (ad 0), .int v1, .int v2]) (n := 4) (Nat.le_of_ble_eq_true rfl)
  rw [lg_entry_eq]
  generalize (lg_sl ([.ref (ad 0), .int v1, .int v2]) ++ List.replicate (4 - (lg_sl ([.ref (ad 0), .int v1, .int v2])).length) Slot.unset).toArray = ls at hl ⊢
  exact w_X8_ownOf_0 hm ⟨Nat.le_refl _, Nat.le_refl _⟩ hK hD σ v1 v2 hf _ _ _ hP va_S.rf hl
/-! CallGraphsModel.member(III)I -/
theorem in_X8_member_X8 : ∀ w ∈ u_ws RX8 TX8 50, w ∈ wsX8_member := fun w h => List.mem_cons_of_mem _ (List.mem_append_right _ h)
def p_X8_member_49 (σ : SS) : Option (Int32 × SS) := some ((-102), σ)
set_option maxHeartbeats 4000000 in
set_option maxRecDepth 100000 in
theorem w_X8_member_49 {p : Program} {l : Launch} {e : Env} {R : Room} {s : State} {m : MethodId} {args : Array Value} {below : List Frame} {meth : Method} {c : Code} {D : va_G} {ad : Nat → Nat} {cI cJ cZ : ClassId} {res : Int32 × SS} (hm : mx p s m args meth c cX8_member 5 (some .int) wsX8_member RX8) (hR : 2 ≤ R.frames ∧ 43 ≤ R.locals) (hK : va_K D vwCl (tyw cI cJ cZ) s) (hD : ∀ σ, va_D (aM ad) (wM ad cI cJ cZ σ)) (σ : SS) (hf : p_X8_member_49 σ = some res) (H : Heap) (locs : List Loc) (ls : Array Slot) (hP : va_P D vwCl (wM ad cI cJ cZ σ) H) (hS : va_S (aM ad) s.heap H locs) (hl : lv_has ls 5 []) : W p l e R s m args below meth c H locs 0 0 (MQ below (va_Qi (fun (r : Int32) (u : SS) => (r, u) = res) (fun u t => va_P D vwCl (wM ad cI cJ cZ u) t.heap) (aM ad)) args s 0 0 (aM ad)) (F0 m 49 ls []) := by
  obtain ⟨hx, hb, hr, hml, hown, hts, hlk⟩ := id hm
  unfold p_X8_member_49 at hf
  refine lv_bipush (v := (-102)) hx hb dX8_member_49 (by decide) ?_
  exact rt_i (wd := wM ad cI cJ cZ) hx hb hr hlk (Option.some.inj hf) hP hS dX8_member_51
def p_X8_member_62 (v1 : Int32) (v3 : Int32) (t0 : Int32) (σ : SS) : Option (Int32 × SS) := oc (p_X8_ownOf_0 σ v1 t0) (fun r_68 => if r_68 = (-1) then if (σ.1 0 5) = 48 then some ((-104), σ) else oi (σ.1 0 5) 48 (os (sI σ 5 ((σ.1 0 5).toNatClampNeg) v1) (fun s_99 => oi (s_99.1 0 5) 48 (os (sI s_99 6 ((s_99.1 0 5).toNatClampNeg) t0) (fun s_110 => oi (s_110.1 0 5) 48 (os (sI s_110 7 ((s_110.1 0 5).toNatClampNeg) v3) (fun s_120 => oi (s_120.1 0 5) 48 (os (sI s_120 8 ((s_120.1 0 5).toNatClampNeg) 0) (fun s_130 => oi (s_130.1 0 5) 48 (os (sI s_130 9 ((s_130.1 0 5).toNatClampNeg) 0) (fun s_140 => os (sI s_140 0 5 ((s_140.1 0 5) + 1)) (fun s_148 => os (sI s_148 0 16 0) (fun s_153 => some (((s_153.1 0 5) - 1), s_153))))))))))))) else some ((-103), σ))
set_option maxHeartbeats 4000000 in
set_option maxRecDepth 100000 in
theorem w_X8_member_62 {p : Program} {l : Launch} {e : Env} {R : Room} {s : State} {m : MethodId} {args : Array Value} {below : List Frame} {meth : Method} {c : Code} {D : va_G} {ad : Nat → Nat} {cI cJ cZ : ClassId} {res : Int32 × SS} (hm : mx p s m args meth c cX8_member 5 (some .int) wsX8_member RX8) (hR : 2 ≤ R.frames ∧ 43 ≤ R.locals) (hK : va_K D vwCl (tyw cI cJ cZ) s) (hD : ∀ σ, va_D (aM ad) (wM ad cI cJ cZ σ)) (v1 : Int32) (v3 : Int32) (t0 : Int32) (σ : SS) (hf : p_X8_member_62 v1 v3 t0 σ = some res) (H : Heap) (locs : List Loc) (ls : Array Slot) (hP : va_P D vwCl (wM ad cI cJ cZ σ) H) (hS : va_S (aM ad) s.heap H locs) (hl : lv_has ls 5 [(0, .ref (ad 0)), (1, .int v1), (3, .int v3)]) : W p l e R s m args below meth c H locs 0 0 (MQ below (va_Qi (fun (r : Int32) (u : SS) => (r, u) = res) (fun u t => va_P D vwCl (wM ad cI cJ cZ u) t.heap) (aM ad)) args s 0 0 (aM ad)) (F0 m 62 ls [.int t0]) := by
  obtain ⟨hx, hb, hr, hml, hown, hts, hlk⟩ := id hm
  unfold p_X8_member_62 at hf
  refine lv_istore (lv' := [(4, .int t0), (0, .ref (ad 0)), (1, .int v1), (3, .int v3)]) hx hb dX8_member_62 hl (by decide) rfl (fun ls hl => ?_)
  refine lv_aload_n hx hb dX8_member_64 rfl (lv_at hl 1 rfl) ?_
  refine lv_iload_n hx hb dX8_member_65 rfl (lv_at hl 2 rfl) ?_
  refine lv_iload hx hb dX8_member_66 (lv_at hl 0 rfl) ?_
  obtain ⟨r_68, hg_68, hf⟩ := oc_e hf
  refine mV_ri (wd := wM ad cI cJ cZ) (σ := σ) (As := [.int v1, .int t0]) (rest := []) ⟨hx, hb, hml, hown, hts⟩ hK hP hD hS (c_X8_ownOf l D ad cI cJ cZ σ v1 t0 hg_68) (cwV 2 hts gX8_member_X8_ownOf rfl rfl rfl hd_X8_ownOf ⟨Nat.le_trans (Nat.le_of_ble_eq_true rfl) hR.1, Nat.le_trans (Nat.le_of_ble_eq_true rfl) hR.2⟩) rfl (wM_0 _ _ _ _ _) rfl hl.1 rfl (Nat.le_of_ble_eq_true rfl) dX8_member_68 (fun H locs hP hS => ?_)
  refine lv_iconst (v := (-1)) hx hb dX8_member_71 (by decide) ?_
  refine lv_icmp_eq (tgt := 78) hx hb dX8_member_72 (by decide) (fun c_72 => ?_) (fun c_72 => ?_)
  · rw [if_pos c_72] at hf
    refine lv_aload_n hx hb dX8_member_78 rfl (lv_at hl 1 rfl) ?_
    refine va_get (D := D) (ci := 7) (v := .int (σ.1 0 5)) (C := RX8) (T := TX8) (N := 50) hx hb hts in_X8_member_X8 hown hK hP 0 (wM_0 _ _ _ _ _) rfl 5 (by decide) (hts (.fieldLink RX8 131 "CallGraphsModel" "members" "I") (List.mem_of_getElem? (i := 2) rfl)) (fun _ h9 => h9) (fM_0_5 _ _) dX8_member_79 ?_
    refine lv_bipush (v := 48) hx hb dX8_member_82 (by decide) ?_
    refine lv_icmp_ne (tgt := 90) hx hb dX8_member_84 (by decide) (fun c_84 => ?_) (fun c_84 => ?_)
    · rw [if_neg c_84] at hf
      refine lv_aload_n hx hb dX8_member_90 rfl (lv_at hl 1 rfl) ?_
      refine va_get (D := D) (ci := 7) (v := .ref (ad 5)) (C := RX8) (T := TX8) (N := 50) hx hb hts in_X8_member_X8 hown hK hP 0 (wM_0 _ _ _ _ _) rfl 6 (by decide) (hts (.fieldLink RX8 22 "CallGraphsModel" "typeOf" "[I") (List.mem_of_getElem? (i := 3) rfl)) (fun _ h9 => h9) (fM_0_6 _ _) dX8_member_91 ?_
      refine lv_aload_n hx hb dX8_member_94 rfl (lv_at hl 1 rfl) ?_
      refine va_get (D := D) (ci := 7) (v := .int (σ.1 0 5)) (C := RX8) (T := TX8) (N := 50) hx hb hts in_X8_member_X8 hown hK hP 0 (wM_0 _ _ _ _ _) rfl 5 (by decide) (hts (.fieldLink RX8 131 "CallGraphsModel" "members" "I") (List.mem_of_getElem? (i := 2) rfl)) (fun _ h9 => h9) (fM_0_5 _ _) dX8_member_95 ?_
      refine lv_iload_n hx hb dX8_member_98 rfl (lv_at hl 2 rfl) ?_
      obtain ⟨h_99, hf⟩ := oi_e hf
      refine va_iast hx hb hK hP (hD _) hS 5 0 (wM_5 _ _ _ _ _) rfl h_99 dX8_member_99 (fun H locs hP _ hS => ?_)
      have hP := wM_s5 hP
      obtain ⟨s_99, es_99, hf⟩ := os_e hf
      rw [← es_99] at hP
      refine lv_aload_n hx hb dX8_member_100 rfl (lv_at hl 1 rfl) ?_
      refine va_get (D := D) (ci := 7) (v := .ref (ad 6)) (C := RX8) (T := TX8) (N := 50) hx hb hts in_X8_member_X8 hown hK hP 0 (wM_0 _ _ _ _ _) rfl 7 (by decide) (hts (.fieldLink RX8 25 "CallGraphsModel" "nameOf" "[I") (List.mem_of_getElem? (i := 4) rfl)) (fun _ h9 => h9) (fM_0_7 _ _) dX8_member_101 ?_
      refine lv_aload_n hx hb dX8_member_104 rfl (lv_at hl 1 rfl) ?_
      refine va_get (D := D) (ci := 7) (v := .int (s_99.1 0 5)) (C := RX8) (T := TX8) (N := 50) hx hb hts in_X8_member_X8 hown hK hP 0 (wM_0 _ _ _ _ _) rfl 5 (by decide) (hts (.fieldLink RX8 131 "CallGraphsModel" "members" "I") (List.mem_of_getElem? (i := 2) rfl)) (fun _ h9 => h9) (fM_0_5 _ _) dX8_member_105 ?_
      refine lv_iload hx hb dX8_member_108 (lv_at hl 0 rfl) ?_
      obtain ⟨h_110, hf⟩ := oi_e hf
      refine va_iast hx hb hK hP (hD _) hS 6 0 (wM_6 _ _ _ _ _) rfl h_110 dX8_member_110 (fun H locs hP _ hS => ?_)
      have hP := wM_s6 hP
      obtain ⟨s_110, es_110, hf⟩ := os_e hf
      rw [← es_110] at hP
      refine lv_aload_n hx hb dX8_member_111 rfl (lv_at hl 1 rfl) ?_
      refine va_get (D := D) (ci := 7) (v := .ref (ad 7)) (C := RX8) (T := TX8) (N := 50) hx hb hts in_X8_member_X8 hown hK hP 0 (wM_0 _ _ _ _ _) rfl 8 (by decide) (hts (.fieldLink RX8 28 "CallGraphsModel" "sortOf" "[I") (List.mem_of_getElem? (i := 5) rfl)) (fun _ h9 => h9) (fM_0_8 _ _) dX8_member_112 ?_
      refine lv_aload_n hx hb dX8_member_115 rfl (lv_at hl 1 rfl) ?_
      refine va_get (D := D) (ci := 7) (v := .int (s_110.1 0 5)) (C := RX8) (T := TX8) (N := 50) hx hb hts in_X8_member_X8 hown hK hP 0 (wM_0 _ _ _ _ _) rfl 5 (by decide) (hts (.fieldLink RX8 131 "CallGraphsModel" "members" "I") (List.mem_of_getElem? (i := 2) rfl)) (fun _ h9 => h9) (fM_0_5 _ _) dX8_member_116 ?_
      refine lv_iload_n hx hb dX8_member_119 rfl (lv_at hl 3 rfl) ?_
      obtain ⟨h_120, hf⟩ := oi_e hf
      refine va_iast hx hb hK hP (hD _) hS 7 0 (wM_7 _ _ _ _ _) rfl h_120 dX8_member_120 (fun H locs hP _ hS => ?_)
      have hP := wM_s7 hP
      obtain ⟨s_120, es_120, hf⟩ := os_e hf
      rw [← es_120] at hP
      refine lv_aload_n hx hb dX8_member_121 rfl (lv_at hl 1 rfl) ?_
      refine va_get (D := D) (ci := 7) (v := .ref (ad 8)) (C := RX8) (T := TX8) (N := 50) hx hb hts in_X8_member_X8 hown hK hP 0 (wM_0 _ _ _ _ _) rfl 9 (by decide) (hts (.fieldLink RX8 31 "CallGraphsModel" "isRoot" "[Z") (List.mem_of_getElem? (i := 6) rfl)) (fun _ h9 => h9) (fM_0_9 _ _) dX8_member_122 ?_
      refine lv_aload_n hx hb dX8_member_125 rfl (lv_at hl 1 rfl) ?_
      refine va_get (D := D) (ci := 7) (v := .int (s_120.1 0 5)) (C := RX8) (T := TX8) (N := 50) hx hb hts in_X8_member_X8 hown hK hP 0 (wM_0 _ _ _ _ _) rfl 5 (by decide) (hts (.fieldLink RX8 131 "CallGraphsModel" "members" "I") (List.mem_of_getElem? (i := 2) rfl)) (fun _ h9 => h9) (fM_0_5 _ _) dX8_member_126 ?_
      refine lv_iconst (v := 0) hx hb dX8_member_129 (by decide) ?_
      obtain ⟨h_130, hf⟩ := oi_e hf
      refine va_zast hx hb hK hP (hD _) hS 8 2 (wM_8 _ _ _ _ _) rfl h_130 dX8_member_130 (fun H locs hP _ hS => ?_)
      rw [nb_a (Or.inl rfl)] at hP
      have hP := wM_s8 hP
      obtain ⟨s_130, es_130, hf⟩ := os_e hf
      rw [← es_130] at hP
      refine lv_aload_n hx hb dX8_member_131 rfl (lv_at hl 1 rfl) ?_
      refine va_get (D := D) (ci := 7) (v := .ref (ad 9)) (C := RX8) (T := TX8) (N := 50) hx hb hts in_X8_member_X8 hown hK hP 0 (wM_0 _ _ _ _ _) rfl 10 (by decide) (hts (.fieldLink RX8 35 "CallGraphsModel" "opMany" "[I") (List.mem_of_getElem? (i := 7) rfl)) (fun _ h9 => h9) (fM_0_10 _ _) dX8_member_132 ?_
      refine lv_aload_n hx hb dX8_member_135 rfl (lv_at hl 1 rfl) ?_
      refine va_get (D := D) (ci := 7) (v := .int (s_130.1 0 5)) (C := RX8) (T := TX8) (N := 50) hx hb hts in_X8_member_X8 hown hK hP 0 (wM_0 _ _ _ _ _) rfl 5 (by decide) (hts (.fieldLink RX8 131 "CallGraphsModel" "members" "I") (List.mem_of_getElem? (i := 2) rfl)) (fun _ h9 => h9) (fM_0_5 _ _) dX8_member_136 ?_
      refine lv_iconst (v := 0) hx hb dX8_member_139 (by decide) ?_
      obtain ⟨h_140, hf⟩ := oi_e hf
      refine va_iast hx hb hK hP (hD _) hS 9 0 (wM_9 _ _ _ _ _) rfl h_140 dX8_member_140 (fun H locs hP _ hS => ?_)
      have hP := wM_s9 hP
      obtain ⟨s_140, es_140, hf⟩ := os_e hf
      rw [← es_140] at hP
      refine lv_aload_n hx hb dX8_member_141 rfl (lv_at hl 1 rfl) ?_
      refine lv_dup hx hb dX8_member_142 rfl ?_
      refine va_get (D := D) (ci := 7) (v := .int (s_140.1 0 5)) (C := RX8) (T := TX8) (N := 50) hx hb hts in_X8_member_X8 hown hK hP 0 (wM_0 _ _ _ _ _) rfl 5 (by decide) (hts (.fieldLink RX8 131 "CallGraphsModel" "members" "I") (List.mem_of_getElem? (i := 2) rfl)) (fun _ h9 => h9) (fM_0_5 _ _) dX8_member_143 ?_
      refine lv_iconst (v := 1) hx hb dX8_member_146 (by decide) ?_
      refine lv_iadd hx hb dX8_member_147 ?_
      refine va_put (D := D) (ci := 7) (v := .int ((s_140.1 0 5) + 1)) (ty := .int) (C := RX8) (T := TX8) (N := 50) hx hb hts in_X8_member_X8 tyX8 tyX8_ok nmX8 hown hK hP (hD _) hS 0 (wM_0 _ _ _ _ _) rfl 5 (by decide) (hts (.fieldLink RX8 131 "CallGraphsModel" "members" "I") (List.mem_of_getElem? (i := 2) rfl)) (fun _ h9 => h9) rfl (tyX8_ok 5 (by decide)) rfl rfl (Nat.le_of_ble_eq_true rfl) dX8_member_148 (fun H locs hP _ hS => ?_)
      have hP := wM_p0_5 hP
      obtain ⟨s_148, es_148, hf⟩ := os_e hf
      rw [← es_148] at hP
      refine lv_aload_n hx hb dX8_member_151 rfl (lv_at hl 1 rfl) ?_
      refine lv_iconst (v := 0) hx hb dX8_member_152 (by decide) ?_
      refine va_put (D := D) (ci := 7) (v := .int 0) (ty := .boolean) (C := RX8) (T := TX8) (N := 50) hx hb hts in_X8_member_X8 tyX8 tyX8_ok nmX8 hown hK hP (hD _) hS 0 (wM_0 _ _ _ _ _) rfl 16 (by decide) (hts (.fieldLink RX8 119 "CallGraphsModel" "isFresh" "Z") (List.mem_of_getElem? (i := 8) rfl)) (fun _ h9 => h9) rfl (tyX8_ok 16 (by decide)) (nb_n (Or.inl rfl)) (nb_f (Or.inl rfl)) (Nat.le_of_ble_eq_true rfl) dX8_member_153 (fun H locs hP _ hS => ?_)
      have hP := wM_p0_16 hP
      obtain ⟨s_153, es_153, hf⟩ := os_e hf
      rw [← es_153] at hP
      refine lv_aload_n hx hb dX8_member_156 rfl (lv_at hl 1 rfl) ?_
      refine va_get (D := D) (ci := 7) (v := .int (s_153.1 0 5)) (C := RX8) (T := TX8) (N := 50) hx hb hts in_X8_member_X8 hown hK hP 0 (wM_0 _ _ _ _ _) rfl 5 (by decide) (hts (.fieldLink RX8 131 "CallGraphsModel" "members" "I") (List.mem_of_getElem? (i := 2) rfl)) (fun _ h9 => h9) (fM_0_5 _ _) dX8_member_157 ?_
      refine lv_iconst (v := 1) hx hb dX8_member_160 (by decide) ?_
      refine lv_isub hx hb dX8_member_161 ?_
      exact rt_i (wd := wM ad cI cJ cZ) hx hb hr hlk (Option.some.inj hf) hP hS dX8_member_162
    · rw [if_pos c_84] at hf
      refine lv_bipush (v := (-104)) hx hb dX8_member_87 (by decide) ?_
      exact rt_i (wd := wM ad cI cJ cZ) hx hb hr hlk (Option.some.inj hf) hP hS dX8_member_89
  · rw [if_neg c_72] at hf
    refine lv_bipush (v := (-103)) hx hb dX8_member_75 (by decide) ?_
    exact rt_i (wd := wM ad cI cJ cZ) hx hb hr hlk (Option.some.inj hf) hP hS dX8_member_77
def p_X8_member_52 (v1 : Int32) (v2 : Int32) (v3 : Int32) (σ : SS) : Option (Int32 × SS) := if v3 = 4 then p_X8_member_62 v1 v3 (-1) σ else p_X8_member_62 v1 v3 v2 σ
set_option maxHeartbeats 4000000 in
set_option maxRecDepth 100000 in
theorem w_X8_member_52 {p : Program} {l : Launch} {e : Env} {R : Room} {s : State} {m : MethodId} {args : Array Value} {below : List Frame} {meth : Method} {c : Code} {D : va_G} {ad : Nat → Nat} {cI cJ cZ : ClassId} {res : Int32 × SS} (hm : mx p s m args meth c cX8_member 5 (some .int) wsX8_member RX8) (hR : 2 ≤ R.frames ∧ 43 ≤ R.locals) (hK : va_K D vwCl (tyw cI cJ cZ) s) (hD : ∀ σ, va_D (aM ad) (wM ad cI cJ cZ σ)) (v1 : Int32) (v2 : Int32) (v3 : Int32) (σ : SS) (hf : p_X8_member_52 v1 v2 v3 σ = some res) (H : Heap) (locs : List Loc) (ls : Array Slot) (hP : va_P D vwCl (wM ad cI cJ cZ σ) H) (hS : va_S (aM ad) s.heap H locs) (hl : lv_has ls 5 [(0, .ref (ad 0)), (1, .int v1), (2, .int v2), (3, .int v3)]) : W p l e R s m args below meth c H locs 0 0 (MQ below (va_Qi (fun (r : Int32) (u : SS) => (r, u) = res) (fun u t => va_P D vwCl (wM ad cI cJ cZ u) t.heap) (aM ad)) args s 0 0 (aM ad)) (F0 m 52 ls []) := by
  obtain ⟨hx, hb, hr, hml, hown, hts, hlk⟩ := id hm
  unfold p_X8_member_52 at hf
  refine lv_iload_n hx hb dX8_member_52 rfl (lv_at hl 3 rfl) ?_
  refine lv_iconst (v := 4) hx hb dX8_member_53 (by decide) ?_
  refine lv_icmp_ne (tgt := 61) hx hb dX8_member_54 (by decide) (fun c_54 => ?_) (fun c_54 => ?_)
  · rw [if_neg c_54] at hf
    refine lv_iload_n hx hb dX8_member_61 rfl (lv_at hl 2 rfl) ?_
    exact w_X8_member_62 hm hR hK hD v1 v3 v2 σ hf _ _ _ hP hS (lv_sub hl [0, 1, 3] rfl)
  · rw [if_pos c_54] at hf
    refine lv_iconst (v := (-1)) hx hb dX8_member_57 (by decide) ?_
    refine lv_goto (tgt := 62) hx hb dX8_member_58 (by decide) ?_
    exact w_X8_member_62 hm hR hK hD v1 v3 (-1) σ hf _ _ _ hP hS (lv_sub hl [0, 1, 3] rfl)
def p_X8_member_35 (v1 : Int32) (v2 : Int32) (v3 : Int32) (σ : SS) : Option (Int32 × SS) := if v3 = 1 then oi v1 16 (if (σ.1 1 v1.toNatClampNeg) = 0 then p_X8_member_49 σ else p_X8_member_52 v1 v2 v3 σ) else p_X8_member_52 v1 v2 v3 σ
set_option maxHeartbeats 4000000 in
set_option maxRecDepth 100000 in
theorem w_X8_member_35 {p : Program} {l : Launch} {e : Env} {R : Room} {s : State} {m : MethodId} {args : Array Value} {below : List Frame} {meth : Method} {c : Code} {D : va_G} {ad : Nat → Nat} {cI cJ cZ : ClassId} {res : Int32 × SS} (hm : mx p s m args meth c cX8_member 5 (some .int) wsX8_member RX8) (hR : 2 ≤ R.frames ∧ 43 ≤ R.locals) (hK : va_K D vwCl (tyw cI cJ cZ) s) (hD : ∀ σ, va_D (aM ad) (wM ad cI cJ cZ σ)) (v1 : Int32) (v2 : Int32) (v3 : Int32) (σ : SS) (hf : p_X8_member_35 v1 v2 v3 σ = some res) (H : Heap) (locs : List Loc) (ls : Array Slot) (hP : va_P D vwCl (wM ad cI cJ cZ σ) H) (hS : va_S (aM ad) s.heap H locs) (hl : lv_has ls 5 [(0, .ref (ad 0)), (1, .int v1), (2, .int v2), (3, .int v3)]) : W p l e R s m args below meth c H locs 0 0 (MQ below (va_Qi (fun (r : Int32) (u : SS) => (r, u) = res) (fun u t => va_P D vwCl (wM ad cI cJ cZ u) t.heap) (aM ad)) args s 0 0 (aM ad)) (F0 m 35 ls []) := by
  obtain ⟨hx, hb, hr, hml, hown, hts, hlk⟩ := id hm
  unfold p_X8_member_35 at hf
  refine lv_iload_n hx hb dX8_member_35 rfl (lv_at hl 3 rfl) ?_
  refine lv_iconst (v := 1) hx hb dX8_member_36 (by decide) ?_
  refine lv_icmp_ne (tgt := 52) hx hb dX8_member_37 (by decide) (fun c_37 => ?_) (fun c_37 => ?_)
  · rw [if_neg c_37] at hf
    exact w_X8_member_52 hm hR hK hD v1 v2 v3 σ hf _ _ _ hP hS (lv_sub hl [0, 1, 2, 3] rfl)
  · rw [if_pos c_37] at hf
    refine lv_aload_n hx hb dX8_member_40 rfl (lv_at hl 0 rfl) ?_
    refine va_get (D := D) (ci := 7) (v := .ref (ad 1)) (C := RX8) (T := TX8) (N := 50) hx hb hts in_X8_member_X8 hown hK hP 0 (wM_0 _ _ _ _ _) rfl 1 (by decide) (hts (.fieldLink RX8 7 "CallGraphsModel" "kindOf" "[I") (List.mem_of_getElem? (i := 1) rfl)) (fun _ h9 => h9) (fM_0_1 _ _) dX8_member_41 ?_
    refine lv_iload_n hx hb dX8_member_44 rfl (lv_at hl 1 rfl) ?_
    obtain ⟨h_45, hf⟩ := oi_e hf
    refine va_iald hx hb hK hP 1 0 (wM_1 _ _ _ _ _) rfl h_45 dX8_member_45 ?_
    refine lv_if_ne (tgt := 52) hx hb dX8_member_46 (by decide) (fun c_46 => ?_) (fun c_46 => ?_)
    · rw [if_neg c_46] at hf
      exact w_X8_member_52 hm hR hK hD v1 v2 v3 σ hf _ _ _ hP hS (lv_sub hl [0, 1, 2, 3] rfl)
    · rw [if_pos c_46] at hf
      exact w_X8_member_49 hm hR hK hD σ hf _ _ _ hP hS (lv_sub hl [] rfl)
def p_X8_member_0 (v1 : Int32) (v2 : Int32) (v3 : Int32) (σ : SS) : Option (Int32 × SS) := oc (p_X8_isType_0 σ v1) (fun r_2 => if r_2 = 0 then some ((-101), σ) else oc (p_X8_in_0 v3 0 4) (fun r_14 => if r_14 = 0 then p_X8_member_49 σ else if v3 = 4 then p_X8_member_35 v1 v2 v3 σ else oc (p_X8_in_0 v2 0 9) (fun r_29 => if r_29 = 0 then p_X8_member_49 σ else p_X8_member_35 v1 v2 v3 σ)))
set_option maxHeartbeats 4000000 in
set_option maxRecDepth 100000 in
theorem w_X8_member_0 {p : Program} {l : Launch} {e : Env} {R : Room} {s : State} {m : MethodId} {args : Array Value} {below : List Frame} {meth : Method} {c : Code} {D : va_G} {ad : Nat → Nat} {cI cJ cZ : ClassId} {res : Int32 × SS} (hm : mx p s m args meth c cX8_member 5 (some .int) wsX8_member RX8) (hR : 2 ≤ R.frames ∧ 43 ≤ R.locals) (hK : va_K D vwCl (tyw cI cJ cZ) s) (hD : ∀ σ, va_D (aM ad) (wM ad cI cJ cZ σ)) (v1 : Int32) (v2 : Int32) (v3 : Int32) (σ : SS) (hf : p_X8_member_0 v1 v2 v3 σ = some res) (H : Heap) (locs : List Loc) (ls : Array Slot) (hP : va_P D vwCl (wM ad cI cJ cZ σ) H) (hS : va_S (aM ad) s.heap H locs) (hl : lv_has ls 5 [(0, .ref (ad 0)), (1, .int v1), (2, .int v2), (3, .int v3)]) : W p l e R s m args below meth c H locs 0 0 (MQ below (va_Qi (fun (r : Int32) (u : SS) => (r, u) = res) (fun u t => va_P D vwCl (wM ad cI cJ cZ u) t.heap) (aM ad)) args s 0 0 (aM ad)) (F0 m 0 ls []) := by
  obtain ⟨hx, hb, hr, hml, hown, hts, hlk⟩ := id hm
  unfold p_X8_member_0 at hf
  refine lv_aload_n hx hb dX8_member_0 rfl (lv_at hl 0 rfl) ?_
  refine lv_iload_n hx hb dX8_member_1 rfl (lv_at hl 1 rfl) ?_
  obtain ⟨r_2, hg_2, hf⟩ := oc_e hf
  refine mV_ri (wd := wM ad cI cJ cZ) (σ := σ) (As := [.int v1]) (rest := []) ⟨hx, hb, hml, hown, hts⟩ hK hP hD hS (c_X8_isType l D ad cI cJ cZ σ v1 hg_2) (cwV 1 hts gX8_member_X8_isType rfl rfl rfl hd_X8_isType ⟨Nat.le_trans (Nat.le_of_ble_eq_true rfl) hR.1, Nat.le_trans (Nat.le_of_ble_eq_true rfl) hR.2⟩) rfl (wM_0 _ _ _ _ _) rfl hl.1 rfl (Nat.le_of_ble_eq_true rfl) dX8_member_2 (fun H locs hP hS => ?_)
  refine lv_if_ne (tgt := 11) hx hb dX8_member_5 (by decide) (fun c_5 => ?_) (fun c_5 => ?_)
  · rw [if_neg c_5] at hf
    refine lv_iload_n hx hb dX8_member_11 rfl (lv_at hl 3 rfl) ?_
    refine lv_iconst (v := 0) hx hb dX8_member_12 (by decide) ?_
    refine lv_iconst (v := 4) hx hb dX8_member_13 (by decide) ?_
    obtain ⟨r_14, hg_14, hf⟩ := oc_e hf
    refine mS_i (D := D) (As := [.int v3, .int 0, .int 4]) (rest := []) ⟨hx, hb, hml, hown, hts⟩ hP hS (c_X8_in l v3 0 4 hg_14) (va_cwS 3 hts gX8_member_X8_in rfl rfl rfl hd_X8_in ⟨Nat.le_trans (Nat.le_of_ble_eq_true rfl) hR.1, Nat.le_trans (Nat.le_of_ble_eq_true rfl) hR.2⟩) rfl hl.1 rfl (Nat.le_of_ble_eq_true rfl) dX8_member_14 (fun H locs hP hS => ?_)
    refine lv_if_eq (tgt := 49) hx hb dX8_member_17 (by decide) (fun c_17 => ?_) (fun c_17 => ?_)
    · rw [if_pos c_17] at hf
      exact w_X8_member_49 hm hR hK hD σ hf _ _ _ hP hS (lv_sub hl [] rfl)
    · rw [if_neg c_17] at hf
      refine lv_iload_n hx hb dX8_member_20 rfl (lv_at hl 3 rfl) ?_
      refine lv_iconst (v := 4) hx hb dX8_member_21 (by decide) ?_
      refine lv_icmp_eq (tgt := 35) hx hb dX8_member_22 (by decide) (fun c_22 => ?_) (fun c_22 => ?_)
      · rw [if_pos c_22] at hf
        exact w_X8_member_35 hm hR hK hD v1 v2 v3 σ hf _ _ _ hP hS (lv_sub hl [0, 1, 2, 3] rfl)
      · rw [if_neg c_22] at hf
        refine lv_iload_n hx hb dX8_member_25 rfl (lv_at hl 2 rfl) ?_
        refine lv_iconst (v := 0) hx hb dX8_member_26 (by decide) ?_
        refine lv_bipush (v := 9) hx hb dX8_member_27 (by decide) ?_
        obtain ⟨r_29, hg_29, hf⟩ := oc_e hf
        refine mS_i (D := D) (As := [.int v2, .int 0, .int 9]) (rest := []) ⟨hx, hb, hml, hown, hts⟩ hP hS (c_X8_in l v2 0 9 hg_29) (va_cwS 3 hts gX8_member_X8_in rfl rfl rfl hd_X8_in ⟨Nat.le_trans (Nat.le_of_ble_eq_true rfl) hR.1, Nat.le_trans (Nat.le_of_ble_eq_true rfl) hR.2⟩) rfl hl.1 rfl (Nat.le_of_ble_eq_true rfl) dX8_member_29 (fun H locs hP hS => ?_)
        refine lv_if_eq (tgt := 49) hx hb dX8_member_32 (by decide) (fun c_32 => ?_) (fun c_32 => ?_)
        · rw [if_pos c_32] at hf
          exact w_X8_member_49 hm hR hK hD σ hf _ _ _ hP hS (lv_sub hl [] rfl)
        · rw [if_neg c_32] at hf
          exact w_X8_member_35 hm hR hK hD v1 v2 v3 σ hf _ _ _ hP hS (lv_sub hl [0, 1, 2, 3] rfl)
  · rw [if_pos c_5] at hf
    refine lv_bipush (v := (-101)) hx hb dX8_member_8 (by decide) ?_
    exact rt_i (wd := wM ad cI cJ cZ) hx hb hr hlk (Option.some.inj hf) hP hS dX8_member_10
theorem hd_X8_member : yX8_member.cls = RX8 ∧ yX8_member.cls ≠ "java/lang/invoke/MethodHandle" ∧ yX8_member.cls ≠ "java/lang/invoke/VarHandle" ∧ (parseMethodDescriptor yX8_member.desc).map (fun d => d.parameters.length) = some 3 := by decide +kernel
set_option maxHeartbeats 4000000 in
set_option maxRecDepth 100000 in
theorem c_X8_member (l : Launch) (D : va_G) (ad : Nat → Nat) (cI cJ cZ : ClassId) (σ : SS) (v1 : Int32) (v2 : Int32) (v3 : Int32) {res : Int32 × SS} (hf : p_X8_member_0 v1 v2 v3 σ = some res) : Met l yX8_member wsX8_member ({ frames := 2, cells := 0, slots := 0, locals := 43 } : Room) (PW D (tyw cI cJ cZ) (wM ad cI cJ cZ σ) [.ref (ad 0), .int v1, .int v2, .int v3]) (va_Qi (fun (r : Int32) (u : SS) => (r, u) = res) (fun u t => va_P D vwCl (wM ad cI cJ cZ u) t.heap) (aM ad)) 0 0 (aM ad) := by
  refine Met.ofW (cc := cX8_member) (maxL := 5) (ret := (some .int)) (by decide) rfl ?_
  intro p e s m args below meth c s₁ B hml hv
  obtain ⟨rfl, hP, hK, hD0⟩ := hv
  have hD : ∀ σ, va_D (aM ad) (wM ad cI cJ cZ σ) := fun σ => wd_D hD0 (wM_map _ _ _ _ _) (wM_map _ _ _ _ _)
  have hm : mx p s m _ meth c cX8_member 5 (some .int) wsX8_member RX8 := ⟨B.exec, B.bytes, B.returns, hml, findClass_of_methodNamed B.named, atoms_spec (ws := wsX8_member) B.pre, B.notSynchronized⟩
  have hl := lv_entry ([.ref (ad 0), .int v1, .int v2, .int v3]) (n := 5) (Nat.le_of_ble_eq_true rfl)
  rw [lg_entry_eq]
  generalize (lg_sl ([.ref (ad 0), .int v1, .int v2, .int v3]) ++ List.replicate (5 - (lg_sl ([.ref (ad 0), .int v1, .int v2, .int v3])).length) Slot.unset).toArray = ls at hl ⊢
  exact w_X8_member_0 hm ⟨Nat.le_refl _, Nat.le_refl _⟩ hK hD v1 v2 v3 σ hf _ _ _ hP va_S.rf hl
/-! CallGraphsModel.canBeCalled(I)Z -/

def p_X8_canBeCalled_19 (t0 : Int32) : Option (Int32) := ob t0 (some t0)
set_option maxHeartbeats 4000000 in
set_option maxRecDepth 100000 in
theorem w_X8_canBeCalled_19 {p : Program} {l : Launch} {e : Env} {R : Room} {s : State} {m : MethodId} {args : Array Value} {below : List Frame} {meth : Method} {c : Code} {res : Int32} (hm : mx p s m args meth c cX8_canBeCalled 1 (some .boolean) wsX8_canBeCalled RX8) (hR : 0 ≤ R.frames ∧ 0 ≤ R.locals) (t0 : Int32) (hf : p_X8_canBeCalled_19 t0 = some res) (H : Heap) (locs : List Loc) (ls : Array Slot) (hS : va_S (fun _ => False) s.heap H locs) (hl : lv_has ls 1 []) : W p l e R s m args below meth c H locs 0 0 (MQ below (va_Qi (fun (r : Int32) (_ : Unit) => r = res) (fun _ _ => True) (fun _ => False)) args s 0 0 (fun _ => False)) (F0 m 19 ls [.int t0]) := by
  obtain ⟨hx, hb, hr, hml, hown, hts, hlk⟩ := id hm
  unfold p_X8_canBeCalled_19 at hf
  obtain ⟨h_19, hf⟩ := ob_e hf
  exact rs_z hx hb hr hlk h_19 (Option.some.inj hf) hS dX8_canBeCalled_19
def p_X8_canBeCalled_14 : Option (Int32) := p_X8_canBeCalled_19 1
set_option maxHeartbeats 4000000 in
set_option maxRecDepth 100000 in
theorem w_X8_canBeCalled_14 {p : Program} {l : Launch} {e : Env} {R : Room} {s : State} {m : MethodId} {args : Array Value} {below : List Frame} {meth : Method} {c : Code} {res : Int32} (hm : mx p s m args meth c cX8_canBeCalled 1 (some .boolean) wsX8_canBeCalled RX8) (hR : 0 ≤ R.frames ∧ 0 ≤ R.locals) (hf : p_X8_canBeCalled_14 = some res) (H : Heap) (locs : List Loc) (ls : Array Slot) (hS : va_S (fun _ => False) s.heap H locs) (hl : lv_has ls 1 []) : W p l e R s m args below meth c H locs 0 0 (MQ below (va_Qi (fun (r : Int32) (_ : Unit) => r = res) (fun _ _ => True) (fun _ => False)) args s 0 0 (fun _ => False)) (F0 m 14 ls []) := by
  obtain ⟨hx, hb, hr, hml, hown, hts, hlk⟩ := id hm
  unfold p_X8_canBeCalled_14 at hf
  refine lv_iconst (v := 1) hx hb dX8_canBeCalled_14 (by decide) ?_
  refine lv_goto (tgt := 19) hx hb dX8_canBeCalled_15 (by decide) ?_
  exact w_X8_canBeCalled_19 hm hR 1 hf _ _ _ hS (lv_sub hl [] rfl)
def p_X8_canBeCalled_0 (v0 : Int32) : Option (Int32) := if v0 = 0 then p_X8_canBeCalled_14 else if v0 = 2 then p_X8_canBeCalled_14 else if v0 = 3 then p_X8_canBeCalled_14 else p_X8_canBeCalled_19 0
set_option maxHeartbeats 4000000 in
set_option maxRecDepth 100000 in
theorem w_X8_canBeCalled_0 {p : Program} {l : Launch} {e : Env} {R : Room} {s : State} {m : MethodId} {args : Array Value} {below : List Frame} {meth : Method} {c : Code} {res : Int32} (hm : mx p s m args meth c cX8_canBeCalled 1 (some .boolean) wsX8_canBeCalled RX8) (hR : 0 ≤ R.frames ∧ 0 ≤ R.locals) (v0 : Int32) (hf : p_X8_canBeCalled_0 v0 = some res) (H : Heap) (locs : List Loc) (ls : Array Slot) (hS : va_S (fun _ => False) s.heap H locs) (hl : lv_has ls 1 [(0, .int v0)]) : W p l e R s m args below meth c H locs 0 0 (MQ below (va_Qi (fun (r : Int32) (_ : Unit) => r = res) (fun _ _ => True) (fun _ => False)) args s 0 0 (fun _ => False)) (F0 m 0 ls []) := by
  obtain ⟨hx, hb, hr, hml, hown, hts, hlk⟩ := id hm
  unfold p_X8_canBeCalled_0 at hf
  refine lv_iload_n hx hb dX8_canBeCalled_0 rfl (lv_at hl 0 rfl) ?_
  refine lv_if_eq (tgt := 14) hx hb dX8_canBeCalled_1 (by decide) (fun c_1 => ?_) (fun c_1 => ?_)
  · rw [if_pos c_1] at hf
    exact w_X8_canBeCalled_14 hm hR hf _ _ _ hS (lv_sub hl [] rfl)
  · rw [if_neg c_1] at hf
    refine lv_iload_n hx hb dX8_canBeCalled_4 rfl (lv_at hl 0 rfl) ?_
    refine lv_iconst (v := 2) hx hb dX8_canBeCalled_5 (by decide) ?_
    refine lv_icmp_eq (tgt := 14) hx hb dX8_canBeCalled_6 (by decide) (fun c_6 => ?_) (fun c_6 => ?_)
    · rw [if_pos c_6] at hf
      exact w_X8_canBeCalled_14 hm hR hf _ _ _ hS (lv_sub hl [] rfl)
    · rw [if_neg c_6] at hf
      refine lv_iload_n hx hb dX8_canBeCalled_9 rfl (lv_at hl 0 rfl) ?_
      refine lv_iconst (v := 3) hx hb dX8_canBeCalled_10 (by decide) ?_
      refine lv_icmp_ne (tgt := 18) hx hb dX8_canBeCalled_11 (by decide) (fun c_11 => ?_) (fun c_11 => ?_)
      · rw [if_neg c_11] at hf
        refine lv_iconst (v := 0) hx hb dX8_canBeCalled_18 (by decide) ?_
        exact w_X8_canBeCalled_19 hm hR 0 hf _ _ _ hS (lv_sub hl [] rfl)
      · rw [if_pos c_11] at hf
        exact w_X8_canBeCalled_14 hm hR hf _ _ _ hS (lv_sub hl [] rfl)
theorem hd_X8_canBeCalled : yX8_canBeCalled.cls ≠ "java/lang/invoke/MethodHandle" ∧ yX8_canBeCalled.cls ≠ "java/lang/invoke/VarHandle" ∧ (parseMethodDescriptor yX8_canBeCalled.desc).map (fun d => d.parameters.length) = some 1 := by decide +kernel
set_option maxHeartbeats 4000000 in
set_option maxRecDepth 100000 in
theorem c_X8_canBeCalled (l : Launch) (v0 : Int32) {res : Int32} (hf : p_X8_canBeCalled_0 v0 = some res) : Met l yX8_canBeCalled wsX8_canBeCalled ({ frames := 0, cells := 0, slots := 0, locals := 0 } : Room) (va_Pc [.int v0] (fun _ => True)) (va_Qi (fun (r : Int32) (_ : Unit) => r = res) (fun _ _ => True) (fun _ => False)) 0 0 (fun _ => False) := by
  refine Met.ofW (cc := cX8_canBeCalled) (maxL := 1) (ret := (some .boolean)) (by decide) rfl ?_
  intro p e s m args below meth c s₁ B hml hv
  obtain ⟨rfl, -⟩ := hv
  have hm : mx p s m _ meth c cX8_canBeCalled 1 (some .boolean) wsX8_canBeCalled RX8 := ⟨B.exec, B.bytes, B.returns, hml, findClass_of_methodNamed B.named, atoms_spec (ws := wsX8_canBeCalled) B.pre, B.notSynchronized⟩
  have hl := lv_entry ([.int v0]) (n := 1) (Nat.le_of_ble_eq_true rfl)
  rw [lg_entry_eq]
  generalize (lg_sl ([.int v0]) ++ List.replicate (1 - (lg_sl ([.int v0])).length) Slot.unset).toArray = ls at hl ⊢
  exact w_X8_canBeCalled_0 hm ⟨Nat.le_refl _, Nat.le_refl _⟩ v0 hf _ _ _ va_S.rf hl
/-! CallGraphsModel.isNext(II)Z -/
theorem in_X8_isNext_X8 : ∀ w ∈ u_ws RX8 TX8 50, w ∈ wsX8_isNext := fun w h => List.mem_cons_of_mem _ (List.mem_append_right _ h)
def p_X8_isNext_54 (σ : SS) (k19 : Int32 → Int32 → Int32 → Int32 → Option (Int32)) (v1 : Int32) (v2 : Int32) (v4 : Int32) (t0 : Int32) : Option (Int32) := k19 v1 v2 t0 (v4 + 1)
set_option maxHeartbeats 4000000 in
set_option maxRecDepth 100000 in
theorem w_X8_isNext_54 {p : Program} {l : Launch} {e : Env} {R : Room} {s : State} {m : MethodId} {args : Array Value} {below : List Frame} {meth : Method} {c : Code} {D : va_G} {ad : Nat → Nat} {cI cJ cZ : ClassId} {res : Int32} (hm : mx p s m args meth c cX8_isNext 5 (some .boolean) wsX8_isNext RX8) (hR : 0 ≤ R.frames ∧ 0 ≤ R.locals) (hK : va_K D vwCl (tyw cI cJ cZ) s) (hD : ∀ σ, va_D (aM ad) (wM ad cI cJ cZ σ)) (σ : SS) (k19 : Int32 → Int32 → Int32 → Int32 → Option (Int32)) (hk19 : ∀ (v1 : Int32) (v2 : Int32) (v3 : Int32) (v4 : Int32), k19 v1 v2 v3 v4 = some res → ∀ (H : Heap) (locs : List Loc) (ls : Array Slot), va_P D vwCl (wM ad cI cJ cZ σ) H → va_S (aM ad) s.heap H locs → lv_has ls 5 [(0, .ref (ad 0)), (1, .int v1), (2, .int v2), (3, .int v3), (4, .int v4)] → W p l e R s m args below meth c H locs 0 0 (MQ below (va_Qi (fun (r : Int32) (u : SS) => r = res ∧ u = σ) (fun u t => va_P D vwCl (wM ad cI cJ cZ u) t.heap) (aM ad)) args s 0 0 (aM ad)) (F0 m 19 ls [])) (v1 : Int32) (v2 : Int32) (v4 : Int32) (t0 : Int32) (hf : p_X8_isNext_54 σ k19 v1 v2 v4 t0 = some res) (H : Heap) (locs : List Loc) (ls : Array Slot) (hP : va_P D vwCl (wM ad cI cJ cZ σ) H) (hS : va_S (aM ad) s.heap H locs) (hl : lv_has ls 5 [(0, .ref (ad 0)), (1, .int v1), (2, .int v2), (4, .int v4)]) : W p l e R s m args below meth c H locs 0 0 (MQ below (va_Qi (fun (r : Int32) (u : SS) => r = res ∧ u = σ) (fun u t => va_P D vwCl (wM ad cI cJ cZ u) t.heap) (aM ad)) args s 0 0 (aM ad)) (F0 m 54 ls [.int t0]) := by
  obtain ⟨hx, hb, hr, hml, hown, hts, hlk⟩ := id hm
  unfold p_X8_isNext_54 at hf
  refine lv_istore_n (lv' := [(3, .int t0), (0, .ref (ad 0)), (1, .int v1), (2, .int v2), (4, .int v4)]) hx hb dX8_isNext_54 rfl hl (by decide) rfl (fun ls hl => ?_)
  refine lv_iinc (v := (v4 + 1)) (lv' := [(4, .int (v4 + 1)), (3, .int t0), (0, .ref (ad 0)), (1, .int v1), (2, .int v2)]) hx hb dX8_isNext_55 hl (k := 4) rfl rfl (by decide) rfl (fun ls hl => ?_)
  refine lv_goto (tgt := 19) hx hb dX8_isNext_58 (by decide) ?_
  exact hk19 v1 v2 t0 (v4 + 1) hf _ _ _ hP hS (lv_sub hl [2, 3, 4, 1, 0] rfl)
def p_X8_isNext_49 (σ : SS) (k19 : Int32 → Int32 → Int32 → Int32 → Option (Int32)) (v1 : Int32) (v2 : Int32) (v4 : Int32) : Option (Int32) := p_X8_isNext_54 σ k19 v1 v2 v4 1
set_option maxHeartbeats 4000000 in
set_option maxRecDepth 100000 in
theorem w_X8_isNext_49 {p : Program} {l : Launch} {e : Env} {R : Room} {s : State} {m : MethodId} {args : Array Value} {below : List Frame} {meth : Method} {c : Code} {D : va_G} {ad : Nat → Nat} {cI cJ cZ : ClassId} {res : Int32} (hm : mx p s m args meth c cX8_isNext 5 (some .boolean) wsX8_isNext RX8) (hR : 0 ≤ R.frames ∧ 0 ≤ R.locals) (hK : va_K D vwCl (tyw cI cJ cZ) s) (hD : ∀ σ, va_D (aM ad) (wM ad cI cJ cZ σ)) (σ : SS) (k19 : Int32 → Int32 → Int32 → Int32 → Option (Int32)) (hk19 : ∀ (v1 : Int32) (v2 : Int32) (v3 : Int32) (v4 : Int32), k19 v1 v2 v3 v4 = some res → ∀ (H : Heap) (locs : List Loc) (ls : Array Slot), va_P D vwCl (wM ad cI cJ cZ σ) H → va_S (aM ad) s.heap H locs → lv_has ls 5 [(0, .ref (ad 0)), (1, .int v1), (2, .int v2), (3, .int v3), (4, .int v4)] → W p l e R s m args below meth c H locs 0 0 (MQ below (va_Qi (fun (r : Int32) (u : SS) => r = res ∧ u = σ) (fun u t => va_P D vwCl (wM ad cI cJ cZ u) t.heap) (aM ad)) args s 0 0 (aM ad)) (F0 m 19 ls [])) (v1 : Int32) (v2 : Int32) (v4 : Int32) (hf : p_X8_isNext_49 σ k19 v1 v2 v4 = some res) (H : Heap) (locs : List Loc) (ls : Array Slot) (hP : va_P D vwCl (wM ad cI cJ cZ σ) H) (hS : va_S (aM ad) s.heap H locs) (hl : lv_has ls 5 [(0, .ref (ad 0)), (1, .int v1), (2, .int v2), (4, .int v4)]) : W p l e R s m args below meth c H locs 0 0 (MQ below (va_Qi (fun (r : Int32) (u : SS) => r = res ∧ u = σ) (fun u t => va_P D vwCl (wM ad cI cJ cZ u) t.heap) (aM ad)) args s 0 0 (aM ad)) (F0 m 49 ls []) := by
  obtain ⟨hx, hb, hr, hml, hown, hts, hlk⟩ := id hm
  unfold p_X8_isNext_49 at hf
  refine lv_iconst (v := 1) hx hb dX8_isNext_49 (by decide) ?_
  refine lv_goto (tgt := 54) hx hb dX8_isNext_50 (by decide) ?_
  exact w_X8_isNext_54 hm hR hK hD σ k19 hk19 v1 v2 v4 1 hf _ _ _ hP hS (lv_sub hl [0, 1, 2, 3] rfl)
def p_X8_isNext_19 (σ : SS) : Nat → Int32 → Int32 → Int32 → Int32 → Option (Int32)
  | 0, _, _, _, _ => none
  | n + 1, v1, v2, v3, v4 => let k19 := p_X8_isNext_19 σ n; oi v1 16 (if (σ.1 3 v1.toNatClampNeg) ≤ v4 then ob v3 (some v3) else if v3 = 0 then oi ((3 * v1) + v4) 48 (if (σ.1 4 ((3 * v1) + v4).toNatClampNeg) = v2 then p_X8_isNext_49 σ k19 v1 v2 v4 else p_X8_isNext_54 σ k19 v1 v2 v4 0) else p_X8_isNext_49 σ k19 v1 v2 v4)
set_option maxHeartbeats 4000000 in
set_option maxRecDepth 100000 in
theorem w_X8_isNext_19 {p : Program} {l : Launch} {e : Env} {R : Room} {s : State} {m : MethodId} {args : Array Value} {below : List Frame} {meth : Method} {c : Code} {D : va_G} {ad : Nat → Nat} {cI cJ cZ : ClassId} {res : Int32} (hm : mx p s m args meth c cX8_isNext 5 (some .boolean) wsX8_isNext RX8) (hR : 0 ≤ R.frames ∧ 0 ≤ R.locals) (hK : va_K D vwCl (tyw cI cJ cZ) s) (hD : ∀ σ, va_D (aM ad) (wM ad cI cJ cZ σ)) (σ : SS) : ∀ (n : Nat) (v1 : Int32) (v2 : Int32) (v3 : Int32) (v4 : Int32), p_X8_isNext_19 σ n v1 v2 v3 v4 = some res → ∀ (H : Heap) (locs : List Loc) (ls : Array Slot), va_P D vwCl (wM ad cI cJ cZ σ) H → va_S (aM ad) s.heap H locs → lv_has ls 5 [(0, .ref (ad 0)), (1, .int v1), (2, .int v2), (3, .int v3), (4, .int v4)] → W p l e R s m args below meth c H locs 0 0 (MQ below (va_Qi (fun (r : Int32) (u : SS) => r = res ∧ u = σ) (fun u t => va_P D vwCl (wM ad cI cJ cZ u) t.heap) (aM ad)) args s 0 0 (aM ad)) (F0 m 19 ls []) := by
  obtain ⟨hx, hb, hr, hml, hown, hts, hlk⟩ := id hm
  intro n
  induction n with
  | zero =>
    intro _ _ _ _ hf
    cases hf
  | succ n hk19 =>
    intro v1 v2 v3 v4 hf H locs ls hP hS hl
    rw [p_X8_isNext_19] at hf
    try dsimp only at hf
    refine lv_iload hx hb dX8_isNext_19 (lv_at hl 4 rfl) ?_
    refine lv_aload_n hx hb dX8_isNext_21 rfl (lv_at hl 0 rfl) ?_
    refine va_get (D := D) (ci := 7) (v := .ref (ad 3)) (C := RX8) (T := TX8) (N := 50) hx hb hts in_X8_isNext_X8 hown hK hP 0 (wM_0 _ _ _ _ _) rfl 3 (by decide) (hts (.fieldLink RX8 16 "CallGraphsModel" "faceMany" "[I") (List.mem_of_getElem? (i := 2) rfl)) (fun _ h9 => h9) (fM_0_3 _ _) dX8_isNext_22 ?_
    refine lv_iload_n hx hb dX8_isNext_25 rfl (lv_at hl 1 rfl) ?_
    obtain ⟨h_26, hf⟩ := oi_e hf
    refine va_iald hx hb hK hP 3 0 (wM_3 _ _ _ _ _) rfl h_26 dX8_isNext_26 ?_
    refine lv_icmp_ge (tgt := 61) hx hb dX8_isNext_27 (by decide) (fun c_27 => ?_) (fun c_27 => ?_)
    · rw [if_pos c_27] at hf
      refine lv_iload_n hx hb dX8_isNext_61 rfl (lv_at hl 3 rfl) ?_
      obtain ⟨h_62, hf⟩ := ob_e hf
      exact rt_z (wd := wM ad cI cJ cZ) hx hb hr hlk h_62 ⟨Option.some.inj hf, rfl⟩ hP hS dX8_isNext_62
    · rw [if_neg c_27] at hf
      refine lv_iload_n hx hb dX8_isNext_30 rfl (lv_at hl 3 rfl) ?_
      refine lv_if_ne (tgt := 49) hx hb dX8_isNext_31 (by decide) (fun c_31 => ?_) (fun c_31 => ?_)
      · rw [if_neg c_31] at hf
        exact w_X8_isNext_49 hm hR hK hD σ (p_X8_isNext_19 σ n) hk19 v1 v2 v4 hf _ _ _ hP hS (lv_sub hl [0, 1, 2, 4] rfl)
      · rw [if_pos c_31] at hf
        refine lv_aload_n hx hb dX8_isNext_34 rfl (lv_at hl 0 rfl) ?_
        refine va_get (D := D) (ci := 7) (v := .ref (ad 4)) (C := RX8) (T := TX8) (N := 50) hx hb hts in_X8_isNext_X8 hown hK hP 0 (wM_0 _ _ _ _ _) rfl 4 (by decide) (hts (.fieldLink RX8 19 "CallGraphsModel" "faceOf" "[I") (List.mem_of_getElem? (i := 3) rfl)) (fun _ h9 => h9) (fM_0_4 _ _) dX8_isNext_35 ?_
        refine lv_iconst (v := 3) hx hb dX8_isNext_38 (by decide) ?_
        refine lv_iload_n hx hb dX8_isNext_39 rfl (lv_at hl 1 rfl) ?_
        refine lv_imul hx hb dX8_isNext_40 ?_
        refine lv_iload hx hb dX8_isNext_41 (lv_at hl 4 rfl) ?_
        refine lv_iadd hx hb dX8_isNext_43 ?_
        obtain ⟨h_44, hf⟩ := oi_e hf
        refine va_iald hx hb hK hP 4 0 (wM_4 _ _ _ _ _) rfl h_44 dX8_isNext_44 ?_
        refine lv_iload_n hx hb dX8_isNext_45 rfl (lv_at hl 2 rfl) ?_
        refine lv_icmp_ne (tgt := 53) hx hb dX8_isNext_46 (by decide) (fun c_46 => ?_) (fun c_46 => ?_)
        · rw [if_neg c_46] at hf
          refine lv_iconst (v := 0) hx hb dX8_isNext_53 (by decide) ?_
          exact w_X8_isNext_54 hm hR hK hD σ (p_X8_isNext_19 σ n) hk19 v1 v2 v4 0 hf _ _ _ hP hS (lv_sub hl [0, 1, 2, 4] rfl)
        · rw [if_pos c_46] at hf
          exact w_X8_isNext_49 hm hR hK hD σ (p_X8_isNext_19 σ n) hk19 v1 v2 v4 hf _ _ _ hP hS (lv_sub hl [0, 1, 2, 4] rfl)
def p_X8_isNext_15 (σ : SS) (v1 : Int32) (v2 : Int32) (t0 : Int32) : Option (Int32) := p_X8_isNext_19 σ 100000 v1 v2 t0 0
set_option maxHeartbeats 4000000 in
set_option maxRecDepth 100000 in
theorem w_X8_isNext_15 {p : Program} {l : Launch} {e : Env} {R : Room} {s : State} {m : MethodId} {args : Array Value} {below : List Frame} {meth : Method} {c : Code} {D : va_G} {ad : Nat → Nat} {cI cJ cZ : ClassId} {res : Int32} (hm : mx p s m args meth c cX8_isNext 5 (some .boolean) wsX8_isNext RX8) (hR : 0 ≤ R.frames ∧ 0 ≤ R.locals) (hK : va_K D vwCl (tyw cI cJ cZ) s) (hD : ∀ σ, va_D (aM ad) (wM ad cI cJ cZ σ)) (σ : SS) (v1 : Int32) (v2 : Int32) (t0 : Int32) (hf : p_X8_isNext_15 σ v1 v2 t0 = some res) (H : Heap) (locs : List Loc) (ls : Array Slot) (hP : va_P D vwCl (wM ad cI cJ cZ σ) H) (hS : va_S (aM ad) s.heap H locs) (hl : lv_has ls 5 [(0, .ref (ad 0)), (1, .int v1), (2, .int v2)]) : W p l e R s m args below meth c H locs 0 0 (MQ below (va_Qi (fun (r : Int32) (u : SS) => r = res ∧ u = σ) (fun u t => va_P D vwCl (wM ad cI cJ cZ u) t.heap) (aM ad)) args s 0 0 (aM ad)) (F0 m 15 ls [.int t0]) := by
  obtain ⟨hx, hb, hr, hml, hown, hts, hlk⟩ := id hm
  unfold p_X8_isNext_15 at hf
  refine lv_istore_n (lv' := [(3, .int t0), (0, .ref (ad 0)), (1, .int v1), (2, .int v2)]) hx hb dX8_isNext_15 rfl hl (by decide) rfl (fun ls hl => ?_)
  refine lv_iconst (v := 0) hx hb dX8_isNext_16 (by decide) ?_
  refine lv_istore (lv' := [(4, .int 0), (3, .int t0), (0, .ref (ad 0)), (1, .int v1), (2, .int v2)]) hx hb dX8_isNext_17 hl (by decide) rfl (fun ls hl => ?_)
  exact w_X8_isNext_19 hm hR hK hD σ 100000 v1 v2 t0 0 hf _ _ _ hP hS (lv_sub hl [2, 3, 4, 1, 0] rfl)
def p_X8_isNext_0 (σ : SS) (v1 : Int32) (v2 : Int32) : Option (Int32) := oi v1 16 (if (σ.1 2 v1.toNatClampNeg) = v2 then p_X8_isNext_15 σ v1 v2 1 else p_X8_isNext_15 σ v1 v2 0)
set_option maxHeartbeats 4000000 in
set_option maxRecDepth 100000 in
theorem w_X8_isNext_0 {p : Program} {l : Launch} {e : Env} {R : Room} {s : State} {m : MethodId} {args : Array Value} {below : List Frame} {meth : Method} {c : Code} {D : va_G} {ad : Nat → Nat} {cI cJ cZ : ClassId} {res : Int32} (hm : mx p s m args meth c cX8_isNext 5 (some .boolean) wsX8_isNext RX8) (hR : 0 ≤ R.frames ∧ 0 ≤ R.locals) (hK : va_K D vwCl (tyw cI cJ cZ) s) (hD : ∀ σ, va_D (aM ad) (wM ad cI cJ cZ σ)) (σ : SS) (v1 : Int32) (v2 : Int32) (hf : p_X8_isNext_0 σ v1 v2 = some res) (H : Heap) (locs : List Loc) (ls : Array Slot) (hP : va_P D vwCl (wM ad cI cJ cZ σ) H) (hS : va_S (aM ad) s.heap H locs) (hl : lv_has ls 5 [(0, .ref (ad 0)), (1, .int v1), (2, .int v2)]) : W p l e R s m args below meth c H locs 0 0 (MQ below (va_Qi (fun (r : Int32) (u : SS) => r = res ∧ u = σ) (fun u t => va_P D vwCl (wM ad cI cJ cZ u) t.heap) (aM ad)) args s 0 0 (aM ad)) (F0 m 0 ls []) := by
  obtain ⟨hx, hb, hr, hml, hown, hts, hlk⟩ := id hm
  unfold p_X8_isNext_0 at hf
  refine lv_aload_n hx hb dX8_isNext_0 rfl (lv_at hl 0 rfl) ?_
  refine va_get (D := D) (ci := 7) (v := .ref (ad 2)) (C := RX8) (T := TX8) (N := 50) hx hb hts in_X8_isNext_X8 hown hK hP 0 (wM_0 _ _ _ _ _) rfl 2 (by decide) (hts (.fieldLink RX8 13 "CallGraphsModel" "superOf" "[I") (List.mem_of_getElem? (i := 1) rfl)) (fun _ h9 => h9) (fM_0_2 _ _) dX8_isNext_1 ?_
  refine lv_iload_n hx hb dX8_isNext_4 rfl (lv_at hl 1 rfl) ?_
  obtain ⟨h_5, hf⟩ := oi_e hf
  refine va_iald hx hb hK hP 2 0 (wM_2 _ _ _ _ _) rfl h_5 dX8_isNext_5 ?_
  refine lv_iload_n hx hb dX8_isNext_6 rfl (lv_at hl 2 rfl) ?_
  refine lv_icmp_ne (tgt := 14) hx hb dX8_isNext_7 (by decide) (fun c_7 => ?_) (fun c_7 => ?_)
  · rw [if_neg c_7] at hf
    refine lv_iconst (v := 0) hx hb dX8_isNext_14 (by decide) ?_
    exact w_X8_isNext_15 hm hR hK hD σ v1 v2 0 hf _ _ _ hP hS (lv_sub hl [0, 1, 2] rfl)
  · rw [if_pos c_7] at hf
    refine lv_iconst (v := 1) hx hb dX8_isNext_10 (by decide) ?_
    refine lv_goto (tgt := 15) hx hb dX8_isNext_11 (by decide) ?_
    exact w_X8_isNext_15 hm hR hK hD σ v1 v2 1 hf _ _ _ hP hS (lv_sub hl [0, 1, 2] rfl)
theorem hd_X8_isNext : yX8_isNext.cls = RX8 ∧ yX8_isNext.cls ≠ "java/lang/invoke/MethodHandle" ∧ yX8_isNext.cls ≠ "java/lang/invoke/VarHandle" ∧ (parseMethodDescriptor yX8_isNext.desc).map (fun d => d.parameters.length) = some 2 := by decide +kernel
set_option maxHeartbeats 4000000 in
set_option maxRecDepth 100000 in
theorem c_X8_isNext (l : Launch) (D : va_G) (ad : Nat → Nat) (cI cJ cZ : ClassId) (σ : SS) (v1 : Int32) (v2 : Int32) {res : Int32} (hf : p_X8_isNext_0 σ v1 v2 = some res) : Met l yX8_isNext wsX8_isNext ({ frames := 0, cells := 0, slots := 0, locals := 0 } : Room) (PW D (tyw cI cJ cZ) (wM ad cI cJ cZ σ) [.ref (ad 0), .int v1, .int v2]) (va_Qi (fun (r : Int32) (u : SS) => r = res ∧ u = σ) (fun u t => va_P D vwCl (wM ad cI cJ cZ u) t.heap) (aM ad)) 0 0 (aM ad) := by
  refine Met.ofW (cc := cX8_isNext) (maxL := 5) (ret := (some .boolean)) (by decide) rfl ?_
  intro p e s m args below meth c s₁ B hml hv
  obtain ⟨rfl, hP, hK, hD0⟩ := hv
  have hD : ∀ σ, va_D (aM ad) (wM ad cI cJ cZ σ) := fun σ => wd_D hD0 (wM_map _ _ _ _ _) (wM_map _ _ _ _ _)
  have hm : mx p s m _ meth c cX8_isNext 5 (some .boolean) wsX8_isNext RX8 := ⟨B.exec, B.bytes, B.returns, hml, findClass_of_methodNamed B.named, atoms_spec (ws := wsX8_isNext) B.pre, B.notSynchronized⟩
  have hl := lv_entry ([.ref (ad 0), .int v1, .int v2]) (n := 5) (Nat.le_of_ble_eq_true rfl)
  rw [lg_entry_eq]
  generalize (lg_sl ([.ref (ad 0), .int v1, .int v2]) ++ List.replicate (5 - (lg_sl ([.ref (ad 0), .int v1, .int v2])).length) Slot.unset).toArray = ls at hl ⊢
  exact w_X8_isNext_0 hm ⟨Nat.le_refl _, Nat.le_refl _⟩ hK hD σ v1 v2 hf _ _ _ hP va_S.rf hl
/-! CallGraphsModel.isRightOp(IIII)Z -/
theorem in_X8_isRightOp_X8 : ∀ w ∈ u_ws RX8 TX8 50, w ∈ wsX8_isRightOp := fun w h => List.mem_cons_of_mem _ (List.mem_append_right _ h)
def p_X8_isRightOp_62 (σ : SS) (t0 : Int32) : Option (Int32) := ob t0 (some t0)
set_option maxHeartbeats 4000000 in
set_option maxRecDepth 100000 in
theorem w_X8_isRightOp_62 {p : Program} {l : Launch} {e : Env} {R : Room} {s : State} {m : MethodId} {args : Array Value} {below : List Frame} {meth : Method} {c : Code} {D : va_G} {ad : Nat → Nat} {cI cJ cZ : ClassId} {res : Int32} (hm : mx p s m args meth c cX8_isRightOp 5 (some .boolean) wsX8_isRightOp RX8) (hR : 1 ≤ R.frames ∧ 24 ≤ R.locals) (hK : va_K D vwCl (tyw cI cJ cZ) s) (hD : ∀ σ, va_D (aM ad) (wM ad cI cJ cZ σ)) (σ : SS) (t0 : Int32) (hf : p_X8_isRightOp_62 σ t0 = some res) (H : Heap) (locs : List Loc) (ls : Array Slot) (hP : va_P D vwCl (wM ad cI cJ cZ σ) H) (hS : va_S (aM ad) s.heap H locs) (hl : lv_has ls 5 []) : W p l e R s m args below meth c H locs 0 0 (MQ below (va_Qi (fun (r : Int32) (u : SS) => r = res ∧ u = σ) (fun u t => va_P D vwCl (wM ad cI cJ cZ u) t.heap) (aM ad)) args s 0 0 (aM ad)) (F0 m 62 ls [.int t0]) := by
  obtain ⟨hx, hb, hr, hml, hown, hts, hlk⟩ := id hm
  unfold p_X8_isRightOp_62 at hf
  obtain ⟨h_62, hf⟩ := ob_e hf
  exact rt_z (wd := wM ad cI cJ cZ) hx hb hr hlk h_62 ⟨Option.some.inj hf, rfl⟩ hP hS dX8_isRightOp_62
def p_X8_isRightOp_102 (σ : SS) (t0 : Int32) : Option (Int32) := ob t0 (some t0)
set_option maxHeartbeats 4000000 in
set_option maxRecDepth 100000 in
theorem w_X8_isRightOp_102 {p : Program} {l : Launch} {e : Env} {R : Room} {s : State} {m : MethodId} {args : Array Value} {below : List Frame} {meth : Method} {c : Code} {D : va_G} {ad : Nat → Nat} {cI cJ cZ : ClassId} {res : Int32} (hm : mx p s m args meth c cX8_isRightOp 5 (some .boolean) wsX8_isRightOp RX8) (hR : 1 ≤ R.frames ∧ 24 ≤ R.locals) (hK : va_K D vwCl (tyw cI cJ cZ) s) (hD : ∀ σ, va_D (aM ad) (wM ad cI cJ cZ σ)) (σ : SS) (t0 : Int32) (hf : p_X8_isRightOp_102 σ t0 = some res) (H : Heap) (locs : List Loc) (ls : Array Slot) (hP : va_P D vwCl (wM ad cI cJ cZ σ) H) (hS : va_S (aM ad) s.heap H locs) (hl : lv_has ls 5 []) : W p l e R s m args below meth c H locs 0 0 (MQ below (va_Qi (fun (r : Int32) (u : SS) => r = res ∧ u = σ) (fun u t => va_P D vwCl (wM ad cI cJ cZ u) t.heap) (aM ad)) args s 0 0 (aM ad)) (F0 m 102 ls [.int t0]) := by
  obtain ⟨hx, hb, hr, hml, hown, hts, hlk⟩ := id hm
  unfold p_X8_isRightOp_102 at hf
  obtain ⟨h_102, hf⟩ := ob_e hf
  exact rt_z (wd := wM ad cI cJ cZ) hx hb hr hlk h_102 ⟨Option.some.inj hf, rfl⟩ hP hS dX8_isRightOp_102
def p_X8_isRightOp_101 (σ : SS) : Option (Int32) := p_X8_isRightOp_102 σ 0
set_option maxHeartbeats 4000000 in
set_option maxRecDepth 100000 in
theorem w_X8_isRightOp_101 {p : Program} {l : Launch} {e : Env} {R : Room} {s : State} {m : MethodId} {args : Array Value} {below : List Frame} {meth : Method} {c : Code} {D : va_G} {ad : Nat → Nat} {cI cJ cZ : ClassId} {res : Int32} (hm : mx p s m args meth c cX8_isRightOp 5 (some .boolean) wsX8_isRightOp RX8) (hR : 1 ≤ R.frames ∧ 24 ≤ R.locals) (hK : va_K D vwCl (tyw cI cJ cZ) s) (hD : ∀ σ, va_D (aM ad) (wM ad cI cJ cZ σ)) (σ : SS) (hf : p_X8_isRightOp_101 σ = some res) (H : Heap) (locs : List Loc) (ls : Array Slot) (hP : va_P D vwCl (wM ad cI cJ cZ σ) H) (hS : va_S (aM ad) s.heap H locs) (hl : lv_has ls 5 []) : W p l e R s m args below meth c H locs 0 0 (MQ below (va_Qi (fun (r : Int32) (u : SS) => r = res ∧ u = σ) (fun u t => va_P D vwCl (wM ad cI cJ cZ u) t.heap) (aM ad)) args s 0 0 (aM ad)) (F0 m 101 ls []) := by
  obtain ⟨hx, hb, hr, hml, hown, hts, hlk⟩ := id hm
  unfold p_X8_isRightOp_101 at hf
  refine lv_iconst (v := 0) hx hb dX8_isRightOp_101 (by decide) ?_
  exact w_X8_isRightOp_102 hm hR hK hD σ 0 hf _ _ _ hP hS (lv_sub hl [] rfl)
def p_X8_isRightOp_141 (σ : SS) (t0 : Int32) : Option (Int32) := ob t0 (some t0)
set_option maxHeartbeats 4000000 in
set_option maxRecDepth 100000 in
theorem w_X8_isRightOp_141 {p : Program} {l : Launch} {e : Env} {R : Room} {s : State} {m : MethodId} {args : Array Value} {below : List Frame} {meth : Method} {c : Code} {D : va_G} {ad : Nat → Nat} {cI cJ cZ : ClassId} {res : Int32} (hm : mx p s m args meth c cX8_isRightOp 5 (some .boolean) wsX8_isRightOp RX8) (hR : 1 ≤ R.frames ∧ 24 ≤ R.locals) (hK : va_K D vwCl (tyw cI cJ cZ) s) (hD : ∀ σ, va_D (aM ad) (wM ad cI cJ cZ σ)) (σ : SS) (t0 : Int32) (hf : p_X8_isRightOp_141 σ t0 = some res) (H : Heap) (locs : List Loc) (ls : Array Slot) (hP : va_P D vwCl (wM ad cI cJ cZ σ) H) (hS : va_S (aM ad) s.heap H locs) (hl : lv_has ls 5 []) : W p l e R s m args below meth c H locs 0 0 (MQ below (va_Qi (fun (r : Int32) (u : SS) => r = res ∧ u = σ) (fun u t => va_P D vwCl (wM ad cI cJ cZ u) t.heap) (aM ad)) args s 0 0 (aM ad)) (F0 m 141 ls [.int t0]) := by
  obtain ⟨hx, hb, hr, hml, hown, hts, hlk⟩ := id hm
  unfold p_X8_isRightOp_141 at hf
  obtain ⟨h_141, hf⟩ := ob_e hf
  exact rt_z (wd := wM ad cI cJ cZ) hx hb hr hlk h_141 ⟨Option.some.inj hf, rfl⟩ hP hS dX8_isRightOp_141
def p_X8_isRightOp_140 (σ : SS) : Option (Int32) := p_X8_isRightOp_141 σ 0
set_option maxHeartbeats 4000000 in
set_option maxRecDepth 100000 in
theorem w_X8_isRightOp_140 {p : Program} {l : Launch} {e : Env} {R : Room} {s : State} {m : MethodId} {args : Array Value} {below : List Frame} {meth : Method} {c : Code} {D : va_G} {ad : Nat → Nat} {cI cJ cZ : ClassId} {res : Int32} (hm : mx p s m args meth c cX8_isRightOp 5 (some .boolean) wsX8_isRightOp RX8) (hR : 1 ≤ R.frames ∧ 24 ≤ R.locals) (hK : va_K D vwCl (tyw cI cJ cZ) s) (hD : ∀ σ, va_D (aM ad) (wM ad cI cJ cZ σ)) (σ : SS) (hf : p_X8_isRightOp_140 σ = some res) (H : Heap) (locs : List Loc) (ls : Array Slot) (hP : va_P D vwCl (wM ad cI cJ cZ σ) H) (hS : va_S (aM ad) s.heap H locs) (hl : lv_has ls 5 []) : W p l e R s m args below meth c H locs 0 0 (MQ below (va_Qi (fun (r : Int32) (u : SS) => r = res ∧ u = σ) (fun u t => va_P D vwCl (wM ad cI cJ cZ u) t.heap) (aM ad)) args s 0 0 (aM ad)) (F0 m 140 ls []) := by
  obtain ⟨hx, hb, hr, hml, hown, hts, hlk⟩ := id hm
  unfold p_X8_isRightOp_140 at hf
  refine lv_iconst (v := 0) hx hb dX8_isRightOp_140 (by decide) ?_
  exact w_X8_isRightOp_141 hm hR hK hD σ 0 hf _ _ _ hP hS (lv_sub hl [] rfl)
def p_X8_isRightOp_0 (σ : SS) (v1 : Int32) (v2 : Int32) (v3 : Int32) (v4 : Int32) : Option (Int32) := (if v2 = 0 then oi v3 16 (if (σ.1 1 v3.toNatClampNeg) = 0 then p_X8_isRightOp_62 σ 1 else p_X8_isRightOp_62 σ 0) else if v2 = 1 then oc (p_X8_in_0 v4 0 9) (fun r_68 => ob r_68 (some r_68)) else if v2 = 2 then oi v1 48 (oc (p_X8_isNext_0 σ (σ.1 5 v1.toNatClampNeg) v3) (fun r_80 => if r_80 = 0 then p_X8_isRightOp_101 σ else oc (p_X8_in_0 v4 0 9) (fun r_91 => if r_91 = 0 then p_X8_isRightOp_101 σ else p_X8_isRightOp_102 σ 1))) else if v2 = 3 then oc (p_X8_in_0 v4 0 9) (fun r_108 => ob r_108 (some r_108)) else if v2 = 4 then some 1 else if v2 = 5 then oc (p_X8_in_0 v3 0 3) (fun r_117 => if r_117 = 0 then p_X8_isRightOp_140 σ else oi v4 48 (oc (p_X8_canBeCalled_0 (σ.1 7 v4.toNatClampNeg)) (fun r_130 => if r_130 = 0 then p_X8_isRightOp_140 σ else p_X8_isRightOp_141 σ 1))) else if v2 = 6 then oc (p_X8_in_0 v3 0 3) (fun r_145 => ob r_145 (some r_145)) else if v2 = 7 then oc (p_X8_in_0 v4 0 9) (fun r_154 => ob r_154 (some r_154)) else some 0)
set_option maxHeartbeats 4000000 in
set_option maxRecDepth 100000 in
theorem w_X8_isRightOp_0 {p : Program} {l : Launch} {e : Env} {R : Room} {s : State} {m : MethodId} {args : Array Value} {below : List Frame} {meth : Method} {c : Code} {D : va_G} {ad : Nat → Nat} {cI cJ cZ : ClassId} {res : Int32} (hm : mx p s m args meth c cX8_isRightOp 5 (some .boolean) wsX8_isRightOp RX8) (hR : 1 ≤ R.frames ∧ 24 ≤ R.locals) (hK : va_K D vwCl (tyw cI cJ cZ) s) (hD : ∀ σ, va_D (aM ad) (wM ad cI cJ cZ σ)) (σ : SS) (v1 : Int32) (v2 : Int32) (v3 : Int32) (v4 : Int32) (hf : p_X8_isRightOp_0 σ v1 v2 v3 v4 = some res) (H : Heap) (locs : List Loc) (ls : Array Slot) (hP : va_P D vwCl (wM ad cI cJ cZ σ) H) (hS : va_S (aM ad) s.heap H locs) (hl : lv_has ls 5 [(0, .ref (ad 0)), (1, .int v1), (2, .int v2), (3, .int v3), (4, .int v4)]) : W p l e R s m args below meth c H locs 0 0 (MQ below (va_Qi (fun (r : Int32) (u : SS) => r = res ∧ u = σ) (fun u t => va_P D vwCl (wM ad cI cJ cZ u) t.heap) (aM ad)) args s 0 0 (aM ad)) (F0 m 0 ls []) := by
  obtain ⟨hx, hb, hr, hml, hown, hts, hlk⟩ := id hm
  unfold p_X8_isRightOp_0 at hf
  refine lv_iload_n hx hb dX8_isRightOp_0 rfl (lv_at hl 2 rfl) ?_
  by_cases c_1_0 : v2 = 0
  · rw [if_pos c_1_0] at hf
    refine lv_tableIn (off := 47) (tgt := 48) hx hb dX8_isRightOp_1 (by rw [c_1_0]; decide) (by rw [c_1_0]; decide) (by rw [c_1_0]; rfl) (by decide) ?_
    refine lv_aload_n hx hb dX8_isRightOp_48 rfl (lv_at hl 0 rfl) ?_
    refine va_get (D := D) (ci := 7) (v := .ref (ad 1)) (C := RX8) (T := TX8) (N := 50) hx hb hts in_X8_isRightOp_X8 hown hK hP 0 (wM_0 _ _ _ _ _) rfl 1 (by decide) (hts (.fieldLink RX8 7 "CallGraphsModel" "kindOf" "[I") (List.mem_of_getElem? (i := 1) rfl)) (fun _ h9 => h9) (fM_0_1 _ _) dX8_isRightOp_49 ?_
    refine lv_iload_n hx hb dX8_isRightOp_52 rfl (lv_at hl 3 rfl) ?_
    obtain ⟨h_53, hf⟩ := oi_e hf
    refine va_iald hx hb hK hP 1 0 (wM_1 _ _ _ _ _) rfl h_53 dX8_isRightOp_53 ?_
    refine lv_if_ne (tgt := 61) hx hb dX8_isRightOp_54 (by decide) (fun c_54 => ?_) (fun c_54 => ?_)
    · rw [if_neg c_54] at hf
      refine lv_iconst (v := 0) hx hb dX8_isRightOp_61 (by decide) ?_
      exact w_X8_isRightOp_62 hm hR hK hD σ 0 hf _ _ _ hP hS (lv_sub hl [] rfl)
    · rw [if_pos c_54] at hf
      refine lv_iconst (v := 1) hx hb dX8_isRightOp_57 (by decide) ?_
      refine lv_goto (tgt := 62) hx hb dX8_isRightOp_58 (by decide) ?_
      exact w_X8_isRightOp_62 hm hR hK hD σ 1 hf _ _ _ hP hS (lv_sub hl [] rfl)
  rw [if_neg c_1_0] at hf
  by_cases c_1_1 : v2 = 1
  · rw [if_pos c_1_1] at hf
    refine lv_tableIn (off := 62) (tgt := 63) hx hb dX8_isRightOp_1 (by rw [c_1_1]; decide) (by rw [c_1_1]; decide) (by rw [c_1_1]; rfl) (by decide) ?_
    refine lv_iload hx hb dX8_isRightOp_63 (lv_at hl 4 rfl) ?_
    refine lv_iconst (v := 0) hx hb dX8_isRightOp_65 (by decide) ?_
    refine lv_bipush (v := 9) hx hb dX8_isRightOp_66 (by decide) ?_
    obtain ⟨r_68, hg_68, hf⟩ := oc_e hf
    refine mS_i (D := D) (As := [.int v4, .int 0, .int 9]) (rest := []) ⟨hx, hb, hml, hown, hts⟩ hP hS (c_X8_in l v4 0 9 hg_68) (va_cwS 3 hts gX8_isRightOp_X8_in rfl rfl rfl hd_X8_in ⟨Nat.le_trans (Nat.le_of_ble_eq_true rfl) hR.1, Nat.le_trans (Nat.le_of_ble_eq_true rfl) hR.2⟩) rfl hl.1 rfl (Nat.le_of_ble_eq_true rfl) dX8_isRightOp_68 (fun H locs hP hS => ?_)
    obtain ⟨h_71, hf⟩ := ob_e hf
    exact rt_z (wd := wM ad cI cJ cZ) hx hb hr hlk h_71 ⟨Option.some.inj hf, rfl⟩ hP hS dX8_isRightOp_71
  rw [if_neg c_1_1] at hf
  by_cases c_1_2 : v2 = 2
  · rw [if_pos c_1_2] at hf
    refine lv_tableIn (off := 71) (tgt := 72) hx hb dX8_isRightOp_1 (by rw [c_1_2]; decide) (by rw [c_1_2]; decide) (by rw [c_1_2]; rfl) (by decide) ?_
    refine lv_aload_n hx hb dX8_isRightOp_72 rfl (lv_at hl 0 rfl) ?_
    refine lv_aload_n hx hb dX8_isRightOp_73 rfl (lv_at hl 0 rfl) ?_
    refine va_get (D := D) (ci := 7) (v := .ref (ad 5)) (C := RX8) (T := TX8) (N := 50) hx hb hts in_X8_isRightOp_X8 hown hK hP 0 (wM_0 _ _ _ _ _) rfl 6 (by decide) (hts (.fieldLink RX8 22 "CallGraphsModel" "typeOf" "[I") (List.mem_of_getElem? (i := 2) rfl)) (fun _ h9 => h9) (fM_0_6 _ _) dX8_isRightOp_74 ?_
    refine lv_iload_n hx hb dX8_isRightOp_77 rfl (lv_at hl 1 rfl) ?_
    obtain ⟨h_78, hf⟩ := oi_e hf
    refine va_iald hx hb hK hP 5 0 (wM_5 _ _ _ _ _) rfl h_78 dX8_isRightOp_78 ?_
    refine lv_iload_n hx hb dX8_isRightOp_79 rfl (lv_at hl 3 rfl) ?_
    obtain ⟨r_80, hg_80, hf⟩ := oc_e hf
    refine mV_ri (wd := wM ad cI cJ cZ) (σ := σ) (As := [.int (σ.1 5 v1.toNatClampNeg), .int v3]) (rest := []) ⟨hx, hb, hml, hown, hts⟩ hK hP hD hS (c_X8_isNext l D ad cI cJ cZ σ (σ.1 5 v1.toNatClampNeg) v3 hg_80) (cwV 2 hts gX8_isRightOp_X8_isNext rfl rfl rfl hd_X8_isNext ⟨Nat.le_trans (Nat.le_of_ble_eq_true rfl) hR.1, Nat.le_trans (Nat.le_of_ble_eq_true rfl) hR.2⟩) rfl (wM_0 _ _ _ _ _) rfl hl.1 rfl (Nat.le_of_ble_eq_true rfl) dX8_isRightOp_80 (fun H locs hP hS => ?_)
    refine lv_if_eq (tgt := 101) hx hb dX8_isRightOp_83 (by decide) (fun c_83 => ?_) (fun c_83 => ?_)
    · rw [if_pos c_83] at hf
      exact w_X8_isRightOp_101 hm hR hK hD σ hf _ _ _ hP hS (lv_sub hl [] rfl)
    · rw [if_neg c_83] at hf
      refine lv_iload hx hb dX8_isRightOp_86 (lv_at hl 4 rfl) ?_
      refine lv_iconst (v := 0) hx hb dX8_isRightOp_88 (by decide) ?_
      refine lv_bipush (v := 9) hx hb dX8_isRightOp_89 (by decide) ?_
      obtain ⟨r_91, hg_91, hf⟩ := oc_e hf
      refine mS_i (D := D) (As := [.int v4, .int 0, .int 9]) (rest := []) ⟨hx, hb, hml, hown, hts⟩ hP hS (c_X8_in l v4 0 9 hg_91) (va_cwS 3 hts gX8_isRightOp_X8_in rfl rfl rfl hd_X8_in ⟨Nat.le_trans (Nat.le_of_ble_eq_true rfl) hR.1, Nat.le_trans (Nat.le_of_ble_eq_true rfl) hR.2⟩) rfl hl.1 rfl (Nat.le_of_ble_eq_true rfl) dX8_isRightOp_91 (fun H locs hP hS => ?_)
      refine lv_if_eq (tgt := 101) hx hb dX8_isRightOp_94 (by decide) (fun c_94 => ?_) (fun c_94 => ?_)
      · rw [if_pos c_94] at hf
        exact w_X8_isRightOp_101 hm hR hK hD σ hf _ _ _ hP hS (lv_sub hl [] rfl)
      · rw [if_neg c_94] at hf
        refine lv_iconst (v := 1) hx hb dX8_isRightOp_97 (by decide) ?_
        refine lv_goto (tgt := 102) hx hb dX8_isRightOp_98 (by decide) ?_
        exact w_X8_isRightOp_102 hm hR hK hD σ 1 hf _ _ _ hP hS (lv_sub hl [] rfl)
  rw [if_neg c_1_2] at hf
  by_cases c_1_3 : v2 = 3
  · rw [if_pos c_1_3] at hf
    refine lv_tableIn (off := 102) (tgt := 103) hx hb dX8_isRightOp_1 (by rw [c_1_3]; decide) (by rw [c_1_3]; decide) (by rw [c_1_3]; rfl) (by decide) ?_
    refine lv_iload hx hb dX8_isRightOp_103 (lv_at hl 4 rfl) ?_
    refine lv_iconst (v := 0) hx hb dX8_isRightOp_105 (by decide) ?_
    refine lv_bipush (v := 9) hx hb dX8_isRightOp_106 (by decide) ?_
    obtain ⟨r_108, hg_108, hf⟩ := oc_e hf
    refine mS_i (D := D) (As := [.int v4, .int 0, .int 9]) (rest := []) ⟨hx, hb, hml, hown, hts⟩ hP hS (c_X8_in l v4 0 9 hg_108) (va_cwS 3 hts gX8_isRightOp_X8_in rfl rfl rfl hd_X8_in ⟨Nat.le_trans (Nat.le_of_ble_eq_true rfl) hR.1, Nat.le_trans (Nat.le_of_ble_eq_true rfl) hR.2⟩) rfl hl.1 rfl (Nat.le_of_ble_eq_true rfl) dX8_isRightOp_108 (fun H locs hP hS => ?_)
    obtain ⟨h_111, hf⟩ := ob_e hf
    exact rt_z (wd := wM ad cI cJ cZ) hx hb hr hlk h_111 ⟨Option.some.inj hf, rfl⟩ hP hS dX8_isRightOp_111
  rw [if_neg c_1_3] at hf
  by_cases c_1_4 : v2 = 4
  · rw [if_pos c_1_4] at hf
    refine lv_tableIn (off := 111) (tgt := 112) hx hb dX8_isRightOp_1 (by rw [c_1_4]; decide) (by rw [c_1_4]; decide) (by rw [c_1_4]; rfl) (by decide) ?_
    refine lv_iconst (v := 1) hx hb dX8_isRightOp_112 (by decide) ?_
    exact rt_z (wd := wM ad cI cJ cZ) hx hb hr hlk (Or.inr rfl) ⟨Option.some.inj hf, rfl⟩ hP hS dX8_isRightOp_113
  rw [if_neg c_1_4] at hf
  by_cases c_1_5 : v2 = 5
  · rw [if_pos c_1_5] at hf
    refine lv_tableIn (off := 113) (tgt := 114) hx hb dX8_isRightOp_1 (by rw [c_1_5]; decide) (by rw [c_1_5]; decide) (by rw [c_1_5]; rfl) (by decide) ?_
    refine lv_iload_n hx hb dX8_isRightOp_114 rfl (lv_at hl 3 rfl) ?_
    refine lv_iconst (v := 0) hx hb dX8_isRightOp_115 (by decide) ?_
    refine lv_iconst (v := 3) hx hb dX8_isRightOp_116 (by decide) ?_
    obtain ⟨r_117, hg_117, hf⟩ := oc_e hf
    refine mS_i (D := D) (As := [.int v3, .int 0, .int 3]) (rest := []) ⟨hx, hb, hml, hown, hts⟩ hP hS (c_X8_in l v3 0 3 hg_117) (va_cwS 3 hts gX8_isRightOp_X8_in rfl rfl rfl hd_X8_in ⟨Nat.le_trans (Nat.le_of_ble_eq_true rfl) hR.1, Nat.le_trans (Nat.le_of_ble_eq_true rfl) hR.2⟩) rfl hl.1 rfl (Nat.le_of_ble_eq_true rfl) dX8_isRightOp_117 (fun H locs hP hS => ?_)
    refine lv_if_eq (tgt := 140) hx hb dX8_isRightOp_120 (by decide) (fun c_120 => ?_) (fun c_120 => ?_)
    · rw [if_pos c_120] at hf
      exact w_X8_isRightOp_140 hm hR hK hD σ hf _ _ _ hP hS (lv_sub hl [] rfl)
    · rw [if_neg c_120] at hf
      refine lv_aload_n hx hb dX8_isRightOp_123 rfl (lv_at hl 0 rfl) ?_
      refine va_get (D := D) (ci := 7) (v := .ref (ad 7)) (C := RX8) (T := TX8) (N := 50) hx hb hts in_X8_isRightOp_X8 hown hK hP 0 (wM_0 _ _ _ _ _) rfl 8 (by decide) (hts (.fieldLink RX8 28 "CallGraphsModel" "sortOf" "[I") (List.mem_of_getElem? (i := 3) rfl)) (fun _ h9 => h9) (fM_0_8 _ _) dX8_isRightOp_124 ?_
      refine lv_iload hx hb dX8_isRightOp_127 (lv_at hl 4 rfl) ?_
      obtain ⟨h_129, hf⟩ := oi_e hf
      refine va_iald hx hb hK hP 7 0 (wM_7 _ _ _ _ _) rfl h_129 dX8_isRightOp_129 ?_
      obtain ⟨r_130, hg_130, hf⟩ := oc_e hf
      refine mS_i (D := D) (As := [.int (σ.1 7 v4.toNatClampNeg)]) (rest := []) ⟨hx, hb, hml, hown, hts⟩ hP hS (c_X8_canBeCalled l (σ.1 7 v4.toNatClampNeg) hg_130) (va_cwS 1 hts gX8_isRightOp_X8_canBeCalled rfl rfl rfl hd_X8_canBeCalled ⟨Nat.le_trans (Nat.le_of_ble_eq_true rfl) hR.1, Nat.le_trans (Nat.le_of_ble_eq_true rfl) hR.2⟩) rfl hl.1 rfl (Nat.le_of_ble_eq_true rfl) dX8_isRightOp_130 (fun H locs hP hS => ?_)
      refine lv_if_eq (tgt := 140) hx hb dX8_isRightOp_133 (by decide) (fun c_133 => ?_) (fun c_133 => ?_)
      · rw [if_pos c_133] at hf
        exact w_X8_isRightOp_140 hm hR hK hD σ hf _ _ _ hP hS (lv_sub hl [] rfl)
      · rw [if_neg c_133] at hf
        refine lv_iconst (v := 1) hx hb dX8_isRightOp_136 (by decide) ?_
        refine lv_goto (tgt := 141) hx hb dX8_isRightOp_137 (by decide) ?_
        exact w_X8_isRightOp_141 hm hR hK hD σ 1 hf _ _ _ hP hS (lv_sub hl [] rfl)
  rw [if_neg c_1_5] at hf
  by_cases c_1_6 : v2 = 6
  · rw [if_pos c_1_6] at hf
    refine lv_tableIn (off := 141) (tgt := 142) hx hb dX8_isRightOp_1 (by rw [c_1_6]; decide) (by rw [c_1_6]; decide) (by rw [c_1_6]; rfl) (by decide) ?_
    refine lv_iload_n hx hb dX8_isRightOp_142 rfl (lv_at hl 3 rfl) ?_
    refine lv_iconst (v := 0) hx hb dX8_isRightOp_143 (by decide) ?_
    refine lv_iconst (v := 3) hx hb dX8_isRightOp_144 (by decide) ?_
    obtain ⟨r_145, hg_145, hf⟩ := oc_e hf
    refine mS_i (D := D) (As := [.int v3, .int 0, .int 3]) (rest := []) ⟨hx, hb, hml, hown, hts⟩ hP hS (c_X8_in l v3 0 3 hg_145) (va_cwS 3 hts gX8_isRightOp_X8_in rfl rfl rfl hd_X8_in ⟨Nat.le_trans (Nat.le_of_ble_eq_true rfl) hR.1, Nat.le_trans (Nat.le_of_ble_eq_true rfl) hR.2⟩) rfl hl.1 rfl (Nat.le_of_ble_eq_true rfl) dX8_isRightOp_145 (fun H locs hP hS => ?_)
    obtain ⟨h_148, hf⟩ := ob_e hf
    exact rt_z (wd := wM ad cI cJ cZ) hx hb hr hlk h_148 ⟨Option.some.inj hf, rfl⟩ hP hS dX8_isRightOp_148
  rw [if_neg c_1_6] at hf
  by_cases c_1_7 : v2 = 7
  · rw [if_pos c_1_7] at hf
    refine lv_tableIn (off := 148) (tgt := 149) hx hb dX8_isRightOp_1 (by rw [c_1_7]; decide) (by rw [c_1_7]; decide) (by rw [c_1_7]; rfl) (by decide) ?_
    refine lv_iload hx hb dX8_isRightOp_149 (lv_at hl 4 rfl) ?_
    refine lv_iconst (v := 0) hx hb dX8_isRightOp_151 (by decide) ?_
    refine lv_bipush (v := 9) hx hb dX8_isRightOp_152 (by decide) ?_
    obtain ⟨r_154, hg_154, hf⟩ := oc_e hf
    refine mS_i (D := D) (As := [.int v4, .int 0, .int 9]) (rest := []) ⟨hx, hb, hml, hown, hts⟩ hP hS (c_X8_in l v4 0 9 hg_154) (va_cwS 3 hts gX8_isRightOp_X8_in rfl rfl rfl hd_X8_in ⟨Nat.le_trans (Nat.le_of_ble_eq_true rfl) hR.1, Nat.le_trans (Nat.le_of_ble_eq_true rfl) hR.2⟩) rfl hl.1 rfl (Nat.le_of_ble_eq_true rfl) dX8_isRightOp_154 (fun H locs hP hS => ?_)
    obtain ⟨h_157, hf⟩ := ob_e hf
    exact rt_z (wd := wM ad cI cJ cZ) hx hb hr hlk h_157 ⟨Option.some.inj hf, rfl⟩ hP hS dX8_isRightOp_157
  rw [if_neg c_1_7] at hf
  refine lv_tableOut (tgt := 158) hx hb dX8_isRightOp_1 (by have g0 := lv_neT c_1_0 (a := 0) (by decide); have g1 := lv_neT c_1_1 (a := 1) (by decide); have g2 := lv_neT c_1_2 (a := 2) (by decide); have g3 := lv_neT c_1_3 (a := 3) (by decide); have g4 := lv_neT c_1_4 (a := 4) (by decide); have g5 := lv_neT c_1_5 (a := 5) (by decide); have g6 := lv_neT c_1_6 (a := 6) (by decide); have g7 := lv_neT c_1_7 (a := 7) (by decide); omega) (by decide) ?_
  refine lv_iconst (v := 0) hx hb dX8_isRightOp_158 (by decide) ?_
  exact rt_z (wd := wM ad cI cJ cZ) hx hb hr hlk (Or.inl rfl) ⟨Option.some.inj hf, rfl⟩ hP hS dX8_isRightOp_159
theorem hd_X8_isRightOp : yX8_isRightOp.cls = RX8 ∧ yX8_isRightOp.cls ≠ "java/lang/invoke/MethodHandle" ∧ yX8_isRightOp.cls ≠ "java/lang/invoke/VarHandle" ∧ (parseMethodDescriptor yX8_isRightOp.desc).map (fun d => d.parameters.length) = some 4 := by decide +kernel
set_option maxHeartbeats 4000000 in
set_option maxRecDepth 100000 in
theorem c_X8_isRightOp (l : Launch) (D : va_G) (ad : Nat → Nat) (cI cJ cZ : ClassId) (σ : SS) (v1 : Int32) (v2 : Int32) (v3 : Int32) (v4 : Int32) {res : Int32} (hf : p_X8_isRightOp_0 σ v1 v2 v3 v4 = some res) : Met l yX8_isRightOp wsX8_isRightOp ({ frames := 1, cells := 0, slots := 0, locals := 24 } : Room) (PW D (tyw cI cJ cZ) (wM ad cI cJ cZ σ) [.ref (ad 0), .int v1, .int v2, .int v3, .int v4]) (va_Qi (fun (r : Int32) (u : SS) => r = res ∧ u = σ) (fun u t => va_P D vwCl (wM ad cI cJ cZ u) t.heap) (aM ad)) 0 0 (aM ad) := by
  refine Met.ofW (cc := cX8_isRightOp) (maxL := 5) (ret := (some .boolean)) (by decide) rfl ?_
  intro p e s m args below meth c s₁ B hml hv
  obtain ⟨rfl, hP, hK, hD0⟩ := hv
  have hD : ∀ σ, va_D (aM ad) (wM ad cI cJ cZ σ) := fun σ => wd_D hD0 (wM_map _ _ _ _ _) (wM_map _ _ _ _ _)
  have hm : mx p s m _ meth c cX8_isRightOp 5 (some .boolean) wsX8_isRightOp RX8 := ⟨B.exec, B.bytes, B.returns, hml, findClass_of_methodNamed B.named, atoms_spec (ws := wsX8_isRightOp) B.pre, B.notSynchronized⟩
  have hl := lv_entry ([.ref (ad 0), .int v1, .int v2, .int v3, .int v4]) (n := 5) (Nat.le_of_ble_eq_true rfl)
  rw [lg_entry_eq]
  generalize (lg_sl ([.ref (ad 0), .int v1, .int v2, .int v3, .int v4]) ++ List.replicate (5 - (lg_sl ([.ref (ad 0), .int v1, .int v2, .int v3, .int v4])).length) Slot.unset).toArray = ls at hl ⊢
  exact w_X8_isRightOp_0 hm ⟨Nat.le_refl _, Nat.le_refl _⟩ hK hD σ v1 v2 v3 v4 hf _ _ _ hP va_S.rf hl
/-! CallGraphsModel.op(IIII)I -/
theorem in_X8_op_X8 : ∀ w ∈ u_ws RX8 TX8 50, w ∈ wsX8_op := fun w h => List.mem_cons_of_mem _ (List.mem_append_right _ h)
def p_X8_op_39 (σ : SS) : Option (Int32 × SS) := some ((-101), σ)
set_option maxHeartbeats 4000000 in
set_option maxRecDepth 100000 in
theorem w_X8_op_39 {p : Program} {l : Launch} {e : Env} {R : Room} {s : State} {m : MethodId} {args : Array Value} {below : List Frame} {meth : Method} {c : Code} {D : va_G} {ad : Nat → Nat} {cI cJ cZ : ClassId} {res : Int32 × SS} (hm : mx p s m args meth c cX8_op 5 (some .int) wsX8_op RX8) (hR : 2 ≤ R.frames ∧ 48 ≤ R.locals) (hK : va_K D vwCl (tyw cI cJ cZ) s) (hD : ∀ σ, va_D (aM ad) (wM ad cI cJ cZ σ)) (σ : SS) (hf : p_X8_op_39 σ = some res) (H : Heap) (locs : List Loc) (ls : Array Slot) (hP : va_P D vwCl (wM ad cI cJ cZ σ) H) (hS : va_S (aM ad) s.heap H locs) (hl : lv_has ls 5 []) : W p l e R s m args below meth c H locs 0 0 (MQ below (va_Qi (fun (r : Int32) (u : SS) => (r, u) = res) (fun u t => va_P D vwCl (wM ad cI cJ cZ u) t.heap) (aM ad)) args s 0 0 (aM ad)) (F0 m 39 ls []) := by
  obtain ⟨hx, hb, hr, hml, hown, hts, hlk⟩ := id hm
  unfold p_X8_op_39 at hf
  refine lv_bipush (v := (-101)) hx hb dX8_op_39 (by decide) ?_
  exact rt_i (wd := wM ad cI cJ cZ) hx hb hr hlk (Option.some.inj hf) hP hS dX8_op_41
def p_X8_op_91 (σ : SS) : Option (Int32 × SS) := some ((-104), σ)
set_option maxHeartbeats 4000000 in
set_option maxRecDepth 100000 in
theorem w_X8_op_91 {p : Program} {l : Launch} {e : Env} {R : Room} {s : State} {m : MethodId} {args : Array Value} {below : List Frame} {meth : Method} {c : Code} {D : va_G} {ad : Nat → Nat} {cI cJ cZ : ClassId} {res : Int32 × SS} (hm : mx p s m args meth c cX8_op 5 (some .int) wsX8_op RX8) (hR : 2 ≤ R.frames ∧ 48 ≤ R.locals) (hK : va_K D vwCl (tyw cI cJ cZ) s) (hD : ∀ σ, va_D (aM ad) (wM ad cI cJ cZ σ)) (σ : SS) (hf : p_X8_op_91 σ = some res) (H : Heap) (locs : List Loc) (ls : Array Slot) (hP : va_P D vwCl (wM ad cI cJ cZ σ) H) (hS : va_S (aM ad) s.heap H locs) (hl : lv_has ls 5 []) : W p l e R s m args below meth c H locs 0 0 (MQ below (va_Qi (fun (r : Int32) (u : SS) => (r, u) = res) (fun u t => va_P D vwCl (wM ad cI cJ cZ u) t.heap) (aM ad)) args s 0 0 (aM ad)) (F0 m 91 ls []) := by
  obtain ⟨hx, hb, hr, hml, hown, hts, hlk⟩ := id hm
  unfold p_X8_op_91 at hf
  refine lv_bipush (v := (-104)) hx hb dX8_op_91 (by decide) ?_
  exact rt_i (wd := wM ad cI cJ cZ) hx hb hr hlk (Option.some.inj hf) hP hS dX8_op_93
def p_X8_op_134 (v1 : Int32) (t0 : Int32) (t1 : Int32) (σ : SS) : Option (Int32 × SS) := oi t1 160 (os (sI σ 13 (t1.toNatClampNeg) t0) (fun s_134 => oi v1 48 (oi ((24 * v1) + (s_134.1 9 v1.toNatClampNeg)) 1152 (os (sI s_134 10 (((24 * v1) + (s_134.1 9 v1.toNatClampNeg)).toNatClampNeg) (s_134.1 0 12)) (fun s_154 => os (sI s_154 0 12 ((s_154.1 0 12) + 1)) (fun s_162 => oi v1 48 (oi v1 48 (os (sI s_162 9 (v1.toNatClampNeg) ((s_162.1 9 v1.toNatClampNeg) + 1)) (fun s_174 => os (sI s_174 0 16 0) (fun s_177 => oi v1 48 (some (((s_177.1 9 v1.toNatClampNeg) - 1), s_177))))))))))))
set_option maxHeartbeats 4000000 in
set_option maxRecDepth 100000 in
theorem w_X8_op_134 {p : Program} {l : Launch} {e : Env} {R : Room} {s : State} {m : MethodId} {args : Array Value} {below : List Frame} {meth : Method} {c : Code} {D : va_G} {ad : Nat → Nat} {cI cJ cZ : ClassId} {res : Int32 × SS} (hm : mx p s m args meth c cX8_op 5 (some .int) wsX8_op RX8) (hR : 2 ≤ R.frames ∧ 48 ≤ R.locals) (hK : va_K D vwCl (tyw cI cJ cZ) s) (hD : ∀ σ, va_D (aM ad) (wM ad cI cJ cZ σ)) (v1 : Int32) (t0 : Int32) (t1 : Int32) (σ : SS) (hf : p_X8_op_134 v1 t0 t1 σ = some res) (H : Heap) (locs : List Loc) (ls : Array Slot) (hP : va_P D vwCl (wM ad cI cJ cZ σ) H) (hS : va_S (aM ad) s.heap H locs) (hl : lv_has ls 5 [(0, .ref (ad 0)), (1, .int v1)]) : W p l e R s m args below meth c H locs 0 0 (MQ below (va_Qi (fun (r : Int32) (u : SS) => (r, u) = res) (fun u t => va_P D vwCl (wM ad cI cJ cZ u) t.heap) (aM ad)) args s 0 0 (aM ad)) (F0 m 134 ls [.int t0, .int t1, .ref (ad 13)]) := by
  obtain ⟨hx, hb, hr, hml, hown, hts, hlk⟩ := id hm
  unfold p_X8_op_134 at hf
  obtain ⟨h_134, hf⟩ := oi_e hf
  refine va_iast hx hb hK hP (hD _) hS 13 0 (wM_13 _ _ _ _ _) rfl h_134 dX8_op_134 (fun H locs hP _ hS => ?_)
  have hP := wM_s13 hP
  obtain ⟨s_134, es_134, hf⟩ := os_e hf
  rw [← es_134] at hP
  refine lv_aload_n hx hb dX8_op_135 rfl (lv_at hl 0 rfl) ?_
  refine va_get (D := D) (ci := 7) (v := .ref (ad 10)) (C := RX8) (T := TX8) (N := 50) hx hb hts in_X8_op_X8 hown hK hP 0 (wM_0 _ _ _ _ _) rfl 11 (by decide) (hts (.fieldLink RX8 38 "CallGraphsModel" "opAt" "[I") (List.mem_of_getElem? (i := 7) rfl)) (fun _ h9 => h9) (fM_0_11 _ _) dX8_op_136 ?_
  refine lv_bipush (v := 24) hx hb dX8_op_139 (by decide) ?_
  refine lv_iload_n hx hb dX8_op_141 rfl (lv_at hl 1 rfl) ?_
  refine lv_imul hx hb dX8_op_142 ?_
  refine lv_aload_n hx hb dX8_op_143 rfl (lv_at hl 0 rfl) ?_
  refine va_get (D := D) (ci := 7) (v := .ref (ad 9)) (C := RX8) (T := TX8) (N := 50) hx hb hts in_X8_op_X8 hown hK hP 0 (wM_0 _ _ _ _ _) rfl 10 (by decide) (hts (.fieldLink RX8 35 "CallGraphsModel" "opMany" "[I") (List.mem_of_getElem? (i := 3) rfl)) (fun _ h9 => h9) (fM_0_10 _ _) dX8_op_144 ?_
  refine lv_iload_n hx hb dX8_op_147 rfl (lv_at hl 1 rfl) ?_
  obtain ⟨h_148, hf⟩ := oi_e hf
  refine va_iald hx hb hK hP 9 0 (wM_9 _ _ _ _ _) rfl h_148 dX8_op_148 ?_
  refine lv_iadd hx hb dX8_op_149 ?_
  refine lv_aload_n hx hb dX8_op_150 rfl (lv_at hl 0 rfl) ?_
  refine va_get (D := D) (ci := 7) (v := .int (s_134.1 0 12)) (C := RX8) (T := TX8) (N := 50) hx hb hts in_X8_op_X8 hown hK hP 0 (wM_0 _ _ _ _ _) rfl 12 (by decide) (hts (.fieldLink RX8 163 "CallGraphsModel" "ops" "I") (List.mem_of_getElem? (i := 2) rfl)) (fun _ h9 => h9) (fM_0_12 _ _) dX8_op_151 ?_
  obtain ⟨h_154, hf⟩ := oi_e hf
  refine va_iast hx hb hK hP (hD _) hS 10 0 (wM_10 _ _ _ _ _) rfl h_154 dX8_op_154 (fun H locs hP _ hS => ?_)
  have hP := wM_s10 hP
  obtain ⟨s_154, es_154, hf⟩ := os_e hf
  rw [← es_154] at hP
  refine lv_aload_n hx hb dX8_op_155 rfl (lv_at hl 0 rfl) ?_
  refine lv_dup hx hb dX8_op_156 rfl ?_
  refine va_get (D := D) (ci := 7) (v := .int (s_154.1 0 12)) (C := RX8) (T := TX8) (N := 50) hx hb hts in_X8_op_X8 hown hK hP 0 (wM_0 _ _ _ _ _) rfl 12 (by decide) (hts (.fieldLink RX8 163 "CallGraphsModel" "ops" "I") (List.mem_of_getElem? (i := 2) rfl)) (fun _ h9 => h9) (fM_0_12 _ _) dX8_op_157 ?_
  refine lv_iconst (v := 1) hx hb dX8_op_160 (by decide) ?_
  refine lv_iadd hx hb dX8_op_161 ?_
  refine va_put (D := D) (ci := 7) (v := .int ((s_154.1 0 12) + 1)) (ty := .int) (C := RX8) (T := TX8) (N := 50) hx hb hts in_X8_op_X8 tyX8 tyX8_ok nmX8 hown hK hP (hD _) hS 0 (wM_0 _ _ _ _ _) rfl 12 (by decide) (hts (.fieldLink RX8 163 "CallGraphsModel" "ops" "I") (List.mem_of_getElem? (i := 2) rfl)) (fun _ h9 => h9) rfl (tyX8_ok 12 (by decide)) rfl rfl (Nat.le_of_ble_eq_true rfl) dX8_op_162 (fun H locs hP _ hS => ?_)
  have hP := wM_p0_12 hP
  obtain ⟨s_162, es_162, hf⟩ := os_e hf
  rw [← es_162] at hP
  refine lv_aload_n hx hb dX8_op_165 rfl (lv_at hl 0 rfl) ?_
  refine va_get (D := D) (ci := 7) (v := .ref (ad 9)) (C := RX8) (T := TX8) (N := 50) hx hb hts in_X8_op_X8 hown hK hP 0 (wM_0 _ _ _ _ _) rfl 10 (by decide) (hts (.fieldLink RX8 35 "CallGraphsModel" "opMany" "[I") (List.mem_of_getElem? (i := 3) rfl)) (fun _ h9 => h9) (fM_0_10 _ _) dX8_op_166 ?_
  refine lv_iload_n hx hb dX8_op_169 rfl (lv_at hl 1 rfl) ?_
  refine lv_dup2_11 hx hb dX8_op_170 rfl rfl ?_
  obtain ⟨h_171, hf⟩ := oi_e hf
  refine va_iald hx hb hK hP 9 0 (wM_9 _ _ _ _ _) rfl h_171 dX8_op_171 ?_
  refine lv_iconst (v := 1) hx hb dX8_op_172 (by decide) ?_
  refine lv_iadd hx hb dX8_op_173 ?_
  obtain ⟨h_174, hf⟩ := oi_e hf
  refine va_iast hx hb hK hP (hD _) hS 9 0 (wM_9 _ _ _ _ _) rfl h_174 dX8_op_174 (fun H locs hP _ hS => ?_)
  have hP := wM_s9 hP
  obtain ⟨s_174, es_174, hf⟩ := os_e hf
  rw [← es_174] at hP
  refine lv_aload_n hx hb dX8_op_175 rfl (lv_at hl 0 rfl) ?_
  refine lv_iconst (v := 0) hx hb dX8_op_176 (by decide) ?_
  refine va_put (D := D) (ci := 7) (v := .int 0) (ty := .boolean) (C := RX8) (T := TX8) (N := 50) hx hb hts in_X8_op_X8 tyX8 tyX8_ok nmX8 hown hK hP (hD _) hS 0 (wM_0 _ _ _ _ _) rfl 16 (by decide) (hts (.fieldLink RX8 119 "CallGraphsModel" "isFresh" "Z") (List.mem_of_getElem? (i := 8) rfl)) (fun _ h9 => h9) rfl (tyX8_ok 16 (by decide)) (nb_n (Or.inl rfl)) (nb_f (Or.inl rfl)) (Nat.le_of_ble_eq_true rfl) dX8_op_177 (fun H locs hP _ hS => ?_)
  have hP := wM_p0_16 hP
  obtain ⟨s_177, es_177, hf⟩ := os_e hf
  rw [← es_177] at hP
  refine lv_aload_n hx hb dX8_op_180 rfl (lv_at hl 0 rfl) ?_
  refine va_get (D := D) (ci := 7) (v := .ref (ad 9)) (C := RX8) (T := TX8) (N := 50) hx hb hts in_X8_op_X8 hown hK hP 0 (wM_0 _ _ _ _ _) rfl 10 (by decide) (hts (.fieldLink RX8 35 "CallGraphsModel" "opMany" "[I") (List.mem_of_getElem? (i := 3) rfl)) (fun _ h9 => h9) (fM_0_10 _ _) dX8_op_181 ?_
  refine lv_iload_n hx hb dX8_op_184 rfl (lv_at hl 1 rfl) ?_
  obtain ⟨h_185, hf⟩ := oi_e hf
  refine va_iald hx hb hK hP 9 0 (wM_9 _ _ _ _ _) rfl h_185 dX8_op_185 ?_
  refine lv_iconst (v := 1) hx hb dX8_op_186 (by decide) ?_
  refine lv_isub hx hb dX8_op_187 ?_
  exact rt_i (wd := wM ad cI cJ cZ) hx hb hr hlk (Option.some.inj hf) hP hS dX8_op_188
def p_X8_op_42 (v1 : Int32) (v2 : Int32) (v3 : Int32) (v4 : Int32) (σ : SS) : Option (Int32 × SS) := oc (p_X8_isRightOp_0 σ v1 v2 v3 v4) (fun r_48 => if r_48 = 0 then some ((-102), σ) else oi v1 48 (if (σ.1 7 v1.toNatClampNeg) = 1 then some ((-103), σ) else if (σ.1 0 12) = 160 then p_X8_op_91 σ else oi v1 48 (if (σ.1 9 v1.toNatClampNeg) = 24 then p_X8_op_91 σ else oi (σ.1 0 12) 160 (os (sI σ 11 ((σ.1 0 12).toNatClampNeg) v2) (fun s_103 => oi (s_103.1 0 12) 160 (os (sI s_103 12 ((s_103.1 0 12).toNatClampNeg) v3) (fun s_113 => if v2 = 4 then p_X8_op_134 v1 9 (s_113.1 0 12) s_113 else p_X8_op_134 v1 v4 (s_113.1 0 12) s_113)))))))
set_option maxHeartbeats 4000000 in
set_option maxRecDepth 100000 in
theorem w_X8_op_42 {p : Program} {l : Launch} {e : Env} {R : Room} {s : State} {m : MethodId} {args : Array Value} {below : List Frame} {meth : Method} {c : Code} {D : va_G} {ad : Nat → Nat} {cI cJ cZ : ClassId} {res : Int32 × SS} (hm : mx p s m args meth c cX8_op 5 (some .int) wsX8_op RX8) (hR : 2 ≤ R.frames ∧ 48 ≤ R.locals) (hK : va_K D vwCl (tyw cI cJ cZ) s) (hD : ∀ σ, va_D (aM ad) (wM ad cI cJ cZ σ)) (v1 : Int32) (v2 : Int32) (v3 : Int32) (v4 : Int32) (σ : SS) (hf : p_X8_op_42 v1 v2 v3 v4 σ = some res) (H : Heap) (locs : List Loc) (ls : Array Slot) (hP : va_P D vwCl (wM ad cI cJ cZ σ) H) (hS : va_S (aM ad) s.heap H locs) (hl : lv_has ls 5 [(0, .ref (ad 0)), (1, .int v1), (2, .int v2), (3, .int v3), (4, .int v4)]) : W p l e R s m args below meth c H locs 0 0 (MQ below (va_Qi (fun (r : Int32) (u : SS) => (r, u) = res) (fun u t => va_P D vwCl (wM ad cI cJ cZ u) t.heap) (aM ad)) args s 0 0 (aM ad)) (F0 m 42 ls []) := by
  obtain ⟨hx, hb, hr, hml, hown, hts, hlk⟩ := id hm
  unfold p_X8_op_42 at hf
  refine lv_aload_n hx hb dX8_op_42 rfl (lv_at hl 0 rfl) ?_
  refine lv_iload_n hx hb dX8_op_43 rfl (lv_at hl 1 rfl) ?_
  refine lv_iload_n hx hb dX8_op_44 rfl (lv_at hl 2 rfl) ?_
  refine lv_iload_n hx hb dX8_op_45 rfl (lv_at hl 3 rfl) ?_
  refine lv_iload hx hb dX8_op_46 (lv_at hl 4 rfl) ?_
  obtain ⟨r_48, hg_48, hf⟩ := oc_e hf
  refine mV_ri (wd := wM ad cI cJ cZ) (σ := σ) (As := [.int v1, .int v2, .int v3, .int v4]) (rest := []) ⟨hx, hb, hml, hown, hts⟩ hK hP hD hS (c_X8_isRightOp l D ad cI cJ cZ σ v1 v2 v3 v4 hg_48) (cwV 4 hts gX8_op_X8_isRightOp rfl rfl rfl hd_X8_isRightOp ⟨Nat.le_trans (Nat.le_of_ble_eq_true rfl) hR.1, Nat.le_trans (Nat.le_of_ble_eq_true rfl) hR.2⟩) rfl (wM_0 _ _ _ _ _) rfl hl.1 rfl (Nat.le_of_ble_eq_true rfl) dX8_op_48 (fun H locs hP hS => ?_)
  refine lv_if_ne (tgt := 57) hx hb dX8_op_51 (by decide) (fun c_51 => ?_) (fun c_51 => ?_)
  · rw [if_neg c_51] at hf
    refine lv_aload_n hx hb dX8_op_57 rfl (lv_at hl 0 rfl) ?_
    refine va_get (D := D) (ci := 7) (v := .ref (ad 7)) (C := RX8) (T := TX8) (N := 50) hx hb hts in_X8_op_X8 hown hK hP 0 (wM_0 _ _ _ _ _) rfl 8 (by decide) (hts (.fieldLink RX8 28 "CallGraphsModel" "sortOf" "[I") (List.mem_of_getElem? (i := 1) rfl)) (fun _ h9 => h9) (fM_0_8 _ _) dX8_op_58 ?_
    refine lv_iload_n hx hb dX8_op_61 rfl (lv_at hl 1 rfl) ?_
    obtain ⟨h_62, hf⟩ := oi_e hf
    refine va_iald hx hb hK hP 7 0 (wM_7 _ _ _ _ _) rfl h_62 dX8_op_62 ?_
    refine lv_iconst (v := 1) hx hb dX8_op_63 (by decide) ?_
    refine lv_icmp_ne (tgt := 70) hx hb dX8_op_64 (by decide) (fun c_64 => ?_) (fun c_64 => ?_)
    · rw [if_neg c_64] at hf
      refine lv_aload_n hx hb dX8_op_70 rfl (lv_at hl 0 rfl) ?_
      refine va_get (D := D) (ci := 7) (v := .int (σ.1 0 12)) (C := RX8) (T := TX8) (N := 50) hx hb hts in_X8_op_X8 hown hK hP 0 (wM_0 _ _ _ _ _) rfl 12 (by decide) (hts (.fieldLink RX8 163 "CallGraphsModel" "ops" "I") (List.mem_of_getElem? (i := 2) rfl)) (fun _ h9 => h9) (fM_0_12 _ _) dX8_op_71 ?_
      refine lv_sipush (v := 160) hx hb dX8_op_74 (by decide) ?_
      refine lv_icmp_eq (tgt := 91) hx hb dX8_op_77 (by decide) (fun c_77 => ?_) (fun c_77 => ?_)
      · rw [if_pos c_77] at hf
        exact w_X8_op_91 hm hR hK hD σ hf _ _ _ hP hS (lv_sub hl [] rfl)
      · rw [if_neg c_77] at hf
        refine lv_aload_n hx hb dX8_op_80 rfl (lv_at hl 0 rfl) ?_
        refine va_get (D := D) (ci := 7) (v := .ref (ad 9)) (C := RX8) (T := TX8) (N := 50) hx hb hts in_X8_op_X8 hown hK hP 0 (wM_0 _ _ _ _ _) rfl 10 (by decide) (hts (.fieldLink RX8 35 "CallGraphsModel" "opMany" "[I") (List.mem_of_getElem? (i := 3) rfl)) (fun _ h9 => h9) (fM_0_10 _ _) dX8_op_81 ?_
        refine lv_iload_n hx hb dX8_op_84 rfl (lv_at hl 1 rfl) ?_
        obtain ⟨h_85, hf⟩ := oi_e hf
        refine va_iald hx hb hK hP 9 0 (wM_9 _ _ _ _ _) rfl h_85 dX8_op_85 ?_
        refine lv_bipush (v := 24) hx hb dX8_op_86 (by decide) ?_
        refine lv_icmp_ne (tgt := 94) hx hb dX8_op_88 (by decide) (fun c_88 => ?_) (fun c_88 => ?_)
        · rw [if_neg c_88] at hf
          refine lv_aload_n hx hb dX8_op_94 rfl (lv_at hl 0 rfl) ?_
          refine va_get (D := D) (ci := 7) (v := .ref (ad 11)) (C := RX8) (T := TX8) (N := 50) hx hb hts in_X8_op_X8 hown hK hP 0 (wM_0 _ _ _ _ _) rfl 13 (by decide) (hts (.fieldLink RX8 41 "CallGraphsModel" "opKind" "[I") (List.mem_of_getElem? (i := 4) rfl)) (fun _ h9 => h9) (fM_0_13 _ _) dX8_op_95 ?_
          refine lv_aload_n hx hb dX8_op_98 rfl (lv_at hl 0 rfl) ?_
          refine va_get (D := D) (ci := 7) (v := .int (σ.1 0 12)) (C := RX8) (T := TX8) (N := 50) hx hb hts in_X8_op_X8 hown hK hP 0 (wM_0 _ _ _ _ _) rfl 12 (by decide) (hts (.fieldLink RX8 163 "CallGraphsModel" "ops" "I") (List.mem_of_getElem? (i := 2) rfl)) (fun _ h9 => h9) (fM_0_12 _ _) dX8_op_99 ?_
          refine lv_iload_n hx hb dX8_op_102 rfl (lv_at hl 2 rfl) ?_
          obtain ⟨h_103, hf⟩ := oi_e hf
          refine va_iast hx hb hK hP (hD _) hS 11 0 (wM_11 _ _ _ _ _) rfl h_103 dX8_op_103 (fun H locs hP _ hS => ?_)
          have hP := wM_s11 hP
          obtain ⟨s_103, es_103, hf⟩ := os_e hf
          rw [← es_103] at hP
          refine lv_aload_n hx hb dX8_op_104 rfl (lv_at hl 0 rfl) ?_
          refine va_get (D := D) (ci := 7) (v := .ref (ad 12)) (C := RX8) (T := TX8) (N := 50) hx hb hts in_X8_op_X8 hown hK hP 0 (wM_0 _ _ _ _ _) rfl 14 (by decide) (hts (.fieldLink RX8 44 "CallGraphsModel" "opA" "[I") (List.mem_of_getElem? (i := 5) rfl)) (fun _ h9 => h9) (fM_0_14 _ _) dX8_op_105 ?_
          refine lv_aload_n hx hb dX8_op_108 rfl (lv_at hl 0 rfl) ?_
          refine va_get (D := D) (ci := 7) (v := .int (s_103.1 0 12)) (C := RX8) (T := TX8) (N := 50) hx hb hts in_X8_op_X8 hown hK hP 0 (wM_0 _ _ _ _ _) rfl 12 (by decide) (hts (.fieldLink RX8 163 "CallGraphsModel" "ops" "I") (List.mem_of_getElem? (i := 2) rfl)) (fun _ h9 => h9) (fM_0_12 _ _) dX8_op_109 ?_
          refine lv_iload_n hx hb dX8_op_112 rfl (lv_at hl 3 rfl) ?_
          obtain ⟨h_113, hf⟩ := oi_e hf
          refine va_iast hx hb hK hP (hD _) hS 12 0 (wM_12 _ _ _ _ _) rfl h_113 dX8_op_113 (fun H locs hP _ hS => ?_)
          have hP := wM_s12 hP
          obtain ⟨s_113, es_113, hf⟩ := os_e hf
          rw [← es_113] at hP
          refine lv_aload_n hx hb dX8_op_114 rfl (lv_at hl 0 rfl) ?_
          refine va_get (D := D) (ci := 7) (v := .ref (ad 13)) (C := RX8) (T := TX8) (N := 50) hx hb hts in_X8_op_X8 hown hK hP 0 (wM_0 _ _ _ _ _) rfl 15 (by decide) (hts (.fieldLink RX8 47 "CallGraphsModel" "opB" "[I") (List.mem_of_getElem? (i := 6) rfl)) (fun _ h9 => h9) (fM_0_15 _ _) dX8_op_115 ?_
          refine lv_aload_n hx hb dX8_op_118 rfl (lv_at hl 0 rfl) ?_
          refine va_get (D := D) (ci := 7) (v := .int (s_113.1 0 12)) (C := RX8) (T := TX8) (N := 50) hx hb hts in_X8_op_X8 hown hK hP 0 (wM_0 _ _ _ _ _) rfl 12 (by decide) (hts (.fieldLink RX8 163 "CallGraphsModel" "ops" "I") (List.mem_of_getElem? (i := 2) rfl)) (fun _ h9 => h9) (fM_0_12 _ _) dX8_op_119 ?_
          refine lv_iload_n hx hb dX8_op_122 rfl (lv_at hl 2 rfl) ?_
          refine lv_iconst (v := 4) hx hb dX8_op_123 (by decide) ?_
          refine lv_icmp_ne (tgt := 132) hx hb dX8_op_124 (by decide) (fun c_124 => ?_) (fun c_124 => ?_)
          · rw [if_neg c_124] at hf
            refine lv_iload hx hb dX8_op_132 (lv_at hl 4 rfl) ?_
            exact w_X8_op_134 hm hR hK hD v1 v4 (s_113.1 0 12) s_113 hf _ _ _ hP hS (lv_sub hl [0, 1] rfl)
          · rw [if_pos c_124] at hf
            refine lv_bipush (v := 9) hx hb dX8_op_127 (by decide) ?_
            refine lv_goto (tgt := 134) hx hb dX8_op_129 (by decide) ?_
            exact w_X8_op_134 hm hR hK hD v1 9 (s_113.1 0 12) s_113 hf _ _ _ hP hS (lv_sub hl [0, 1] rfl)
        · rw [if_pos c_88] at hf
          exact w_X8_op_91 hm hR hK hD σ hf _ _ _ hP hS (lv_sub hl [] rfl)
    · rw [if_pos c_64] at hf
      refine lv_bipush (v := (-103)) hx hb dX8_op_67 (by decide) ?_
      exact rt_i (wd := wM ad cI cJ cZ) hx hb hr hlk (Option.some.inj hf) hP hS dX8_op_69
  · rw [if_pos c_51] at hf
    refine lv_bipush (v := (-102)) hx hb dX8_op_54 (by decide) ?_
    exact rt_i (wd := wM ad cI cJ cZ) hx hb hr hlk (Option.some.inj hf) hP hS dX8_op_56
def p_X8_op_25 (v1 : Int32) (v2 : Int32) (v3 : Int32) (v4 : Int32) (σ : SS) : Option (Int32 × SS) := if v2 = 5 then oc (p_X8_isMember_0 σ v4) (fun r_33 => if r_33 = 0 then p_X8_op_39 σ else p_X8_op_42 v1 v2 v3 v4 σ) else p_X8_op_42 v1 v2 v3 v4 σ
set_option maxHeartbeats 4000000 in
set_option maxRecDepth 100000 in
theorem w_X8_op_25 {p : Program} {l : Launch} {e : Env} {R : Room} {s : State} {m : MethodId} {args : Array Value} {below : List Frame} {meth : Method} {c : Code} {D : va_G} {ad : Nat → Nat} {cI cJ cZ : ClassId} {res : Int32 × SS} (hm : mx p s m args meth c cX8_op 5 (some .int) wsX8_op RX8) (hR : 2 ≤ R.frames ∧ 48 ≤ R.locals) (hK : va_K D vwCl (tyw cI cJ cZ) s) (hD : ∀ σ, va_D (aM ad) (wM ad cI cJ cZ σ)) (v1 : Int32) (v2 : Int32) (v3 : Int32) (v4 : Int32) (σ : SS) (hf : p_X8_op_25 v1 v2 v3 v4 σ = some res) (H : Heap) (locs : List Loc) (ls : Array Slot) (hP : va_P D vwCl (wM ad cI cJ cZ σ) H) (hS : va_S (aM ad) s.heap H locs) (hl : lv_has ls 5 [(0, .ref (ad 0)), (1, .int v1), (2, .int v2), (3, .int v3), (4, .int v4)]) : W p l e R s m args below meth c H locs 0 0 (MQ below (va_Qi (fun (r : Int32) (u : SS) => (r, u) = res) (fun u t => va_P D vwCl (wM ad cI cJ cZ u) t.heap) (aM ad)) args s 0 0 (aM ad)) (F0 m 25 ls []) := by
  obtain ⟨hx, hb, hr, hml, hown, hts, hlk⟩ := id hm
  unfold p_X8_op_25 at hf
  refine lv_iload_n hx hb dX8_op_25 rfl (lv_at hl 2 rfl) ?_
  refine lv_iconst (v := 5) hx hb dX8_op_26 (by decide) ?_
  refine lv_icmp_ne (tgt := 42) hx hb dX8_op_27 (by decide) (fun c_27 => ?_) (fun c_27 => ?_)
  · rw [if_neg c_27] at hf
    exact w_X8_op_42 hm hR hK hD v1 v2 v3 v4 σ hf _ _ _ hP hS (lv_sub hl [0, 1, 2, 3, 4] rfl)
  · rw [if_pos c_27] at hf
    refine lv_aload_n hx hb dX8_op_30 rfl (lv_at hl 0 rfl) ?_
    refine lv_iload hx hb dX8_op_31 (lv_at hl 4 rfl) ?_
    obtain ⟨r_33, hg_33, hf⟩ := oc_e hf
    refine mV_ri (wd := wM ad cI cJ cZ) (σ := σ) (As := [.int v4]) (rest := []) ⟨hx, hb, hml, hown, hts⟩ hK hP hD hS (c_X8_isMember l D ad cI cJ cZ σ v4 hg_33) (cwV 1 hts gX8_op_X8_isMember rfl rfl rfl hd_X8_isMember ⟨Nat.le_trans (Nat.le_of_ble_eq_true rfl) hR.1, Nat.le_trans (Nat.le_of_ble_eq_true rfl) hR.2⟩) rfl (wM_0 _ _ _ _ _) rfl hl.1 rfl (Nat.le_of_ble_eq_true rfl) dX8_op_33 (fun H locs hP hS => ?_)
    refine lv_if_ne (tgt := 42) hx hb dX8_op_36 (by decide) (fun c_36 => ?_) (fun c_36 => ?_)
    · rw [if_neg c_36] at hf
      exact w_X8_op_42 hm hR hK hD v1 v2 v3 v4 σ hf _ _ _ hP hS (lv_sub hl [0, 1, 2, 3, 4] rfl)
    · rw [if_pos c_36] at hf
      exact w_X8_op_39 hm hR hK hD σ hf _ _ _ hP hS (lv_sub hl [] rfl)
def p_X8_op_0 (v1 : Int32) (v2 : Int32) (v3 : Int32) (v4 : Int32) (σ : SS) : Option (Int32 × SS) := oc (p_X8_isMember_0 σ v1) (fun r_2 => if r_2 = 0 then p_X8_op_39 σ else oc (p_X8_in_0 v2 0 4) (fun r_11 => if r_11 = 0 then p_X8_op_25 v1 v2 v3 v4 σ else oc (p_X8_isType_0 σ v3) (fun r_19 => if r_19 = 0 then p_X8_op_39 σ else p_X8_op_25 v1 v2 v3 v4 σ)))
set_option maxHeartbeats 4000000 in
set_option maxRecDepth 100000 in
theorem w_X8_op_0 {p : Program} {l : Launch} {e : Env} {R : Room} {s : State} {m : MethodId} {args : Array Value} {below : List Frame} {meth : Method} {c : Code} {D : va_G} {ad : Nat → Nat} {cI cJ cZ : ClassId} {res : Int32 × SS} (hm : mx p s m args meth c cX8_op 5 (some .int) wsX8_op RX8) (hR : 2 ≤ R.frames ∧ 48 ≤ R.locals) (hK : va_K D vwCl (tyw cI cJ cZ) s) (hD : ∀ σ, va_D (aM ad) (wM ad cI cJ cZ σ)) (v1 : Int32) (v2 : Int32) (v3 : Int32) (v4 : Int32) (σ : SS) (hf : p_X8_op_0 v1 v2 v3 v4 σ = some res) (H : Heap) (locs : List Loc) (ls : Array Slot) (hP : va_P D vwCl (wM ad cI cJ cZ σ) H) (hS : va_S (aM ad) s.heap H locs) (hl : lv_has ls 5 [(0, .ref (ad 0)), (1, .int v1), (2, .int v2), (3, .int v3), (4, .int v4)]) : W p l e R s m args below meth c H locs 0 0 (MQ below (va_Qi (fun (r : Int32) (u : SS) => (r, u) = res) (fun u t => va_P D vwCl (wM ad cI cJ cZ u) t.heap) (aM ad)) args s 0 0 (aM ad)) (F0 m 0 ls []) := by
  obtain ⟨hx, hb, hr, hml, hown, hts, hlk⟩ := id hm
  unfold p_X8_op_0 at hf
  refine lv_aload_n hx hb dX8_op_0 rfl (lv_at hl 0 rfl) ?_
  refine lv_iload_n hx hb dX8_op_1 rfl (lv_at hl 1 rfl) ?_
  obtain ⟨r_2, hg_2, hf⟩ := oc_e hf
  refine mV_ri (wd := wM ad cI cJ cZ) (σ := σ) (As := [.int v1]) (rest := []) ⟨hx, hb, hml, hown, hts⟩ hK hP hD hS (c_X8_isMember l D ad cI cJ cZ σ v1 hg_2) (cwV 1 hts gX8_op_X8_isMember rfl rfl rfl hd_X8_isMember ⟨Nat.le_trans (Nat.le_of_ble_eq_true rfl) hR.1, Nat.le_trans (Nat.le_of_ble_eq_true rfl) hR.2⟩) rfl (wM_0 _ _ _ _ _) rfl hl.1 rfl (Nat.le_of_ble_eq_true rfl) dX8_op_2 (fun H locs hP hS => ?_)
  refine lv_if_eq (tgt := 39) hx hb dX8_op_5 (by decide) (fun c_5 => ?_) (fun c_5 => ?_)
  · rw [if_pos c_5] at hf
    exact w_X8_op_39 hm hR hK hD σ hf _ _ _ hP hS (lv_sub hl [] rfl)
  · rw [if_neg c_5] at hf
    refine lv_iload_n hx hb dX8_op_8 rfl (lv_at hl 2 rfl) ?_
    refine lv_iconst (v := 0) hx hb dX8_op_9 (by decide) ?_
    refine lv_iconst (v := 4) hx hb dX8_op_10 (by decide) ?_
    obtain ⟨r_11, hg_11, hf⟩ := oc_e hf
    refine mS_i (D := D) (As := [.int v2, .int 0, .int 4]) (rest := []) ⟨hx, hb, hml, hown, hts⟩ hP hS (c_X8_in l v2 0 4 hg_11) (va_cwS 3 hts gX8_op_X8_in rfl rfl rfl hd_X8_in ⟨Nat.le_trans (Nat.le_of_ble_eq_true rfl) hR.1, Nat.le_trans (Nat.le_of_ble_eq_true rfl) hR.2⟩) rfl hl.1 rfl (Nat.le_of_ble_eq_true rfl) dX8_op_11 (fun H locs hP hS => ?_)
    refine lv_if_eq (tgt := 25) hx hb dX8_op_14 (by decide) (fun c_14 => ?_) (fun c_14 => ?_)
    · rw [if_pos c_14] at hf
      exact w_X8_op_25 hm hR hK hD v1 v2 v3 v4 σ hf _ _ _ hP hS (lv_sub hl [0, 1, 2, 3, 4] rfl)
    · rw [if_neg c_14] at hf
      refine lv_aload_n hx hb dX8_op_17 rfl (lv_at hl 0 rfl) ?_
      refine lv_iload_n hx hb dX8_op_18 rfl (lv_at hl 3 rfl) ?_
      obtain ⟨r_19, hg_19, hf⟩ := oc_e hf
      refine mV_ri (wd := wM ad cI cJ cZ) (σ := σ) (As := [.int v3]) (rest := []) ⟨hx, hb, hml, hown, hts⟩ hK hP hD hS (c_X8_isType l D ad cI cJ cZ σ v3 hg_19) (cwV 1 hts gX8_op_X8_isType rfl rfl rfl hd_X8_isType ⟨Nat.le_trans (Nat.le_of_ble_eq_true rfl) hR.1, Nat.le_trans (Nat.le_of_ble_eq_true rfl) hR.2⟩) rfl (wM_0 _ _ _ _ _) rfl hl.1 rfl (Nat.le_of_ble_eq_true rfl) dX8_op_19 (fun H locs hP hS => ?_)
      refine lv_if_eq (tgt := 39) hx hb dX8_op_22 (by decide) (fun c_22 => ?_) (fun c_22 => ?_)
      · rw [if_pos c_22] at hf
        exact w_X8_op_39 hm hR hK hD σ hf _ _ _ hP hS (lv_sub hl [] rfl)
      · rw [if_neg c_22] at hf
        exact w_X8_op_25 hm hR hK hD v1 v2 v3 v4 σ hf _ _ _ hP hS (lv_sub hl [0, 1, 2, 3, 4] rfl)
theorem hd_X8_op : yX8_op.cls = RX8 ∧ yX8_op.cls ≠ "java/lang/invoke/MethodHandle" ∧ yX8_op.cls ≠ "java/lang/invoke/VarHandle" ∧ (parseMethodDescriptor yX8_op.desc).map (fun d => d.parameters.length) = some 4 := by decide +kernel
set_option maxHeartbeats 4000000 in
set_option maxRecDepth 100000 in
theorem c_X8_op (l : Launch) (D : va_G) (ad : Nat → Nat) (cI cJ cZ : ClassId) (σ : SS) (v1 : Int32) (v2 : Int32) (v3 : Int32) (v4 : Int32) {res : Int32 × SS} (hf : p_X8_op_0 v1 v2 v3 v4 σ = some res) : Met l yX8_op wsX8_op ({ frames := 2, cells := 0, slots := 0, locals := 48 } : Room) (PW D (tyw cI cJ cZ) (wM ad cI cJ cZ σ) [.ref (ad 0), .int v1, .int v2, .int v3, .int v4]) (va_Qi (fun (r : Int32) (u : SS) => (r, u) = res) (fun u t => va_P D vwCl (wM ad cI cJ cZ u) t.heap) (aM ad)) 0 0 (aM ad) := by
  refine Met.ofW (cc := cX8_op) (maxL := 5) (ret := (some .int)) (by decide) rfl ?_
  intro p e s m args below meth c s₁ B hml hv
  obtain ⟨rfl, hP, hK, hD0⟩ := hv
  have hD : ∀ σ, va_D (aM ad) (wM ad cI cJ cZ σ) := fun σ => wd_D hD0 (wM_map _ _ _ _ _) (wM_map _ _ _ _ _)
  have hm : mx p s m _ meth c cX8_op 5 (some .int) wsX8_op RX8 := ⟨B.exec, B.bytes, B.returns, hml, findClass_of_methodNamed B.named, atoms_spec (ws := wsX8_op) B.pre, B.notSynchronized⟩
  have hl := lv_entry ([.ref (ad 0), .int v1, .int v2, .int v3, .int v4]) (n := 5) (Nat.le_of_ble_eq_true rfl)
  rw [lg_entry_eq]
  generalize (lg_sl ([.ref (ad 0), .int v1, .int v2, .int v3, .int v4]) ++ List.replicate (5 - (lg_sl ([.ref (ad 0), .int v1, .int v2, .int v3, .int v4])).length) Slot.unset).toArray = ls at hl ⊢
  exact w_X8_op_0 hm ⟨Nat.le_refl _, Nat.le_refl _⟩ hK hD v1 v2 v3 v4 σ hf _ _ _ hP va_S.rf hl
/-! CallGraphsModel.root(IZ)I -/
theorem in_X8_root_X8 : ∀ w ∈ u_ws RX8 TX8 50, w ∈ wsX8_root := fun w h => List.mem_cons_of_mem _ (List.mem_append_right _ h)
def p_X8_root_31 (σ : SS) : Option (Int32 × SS) := some ((-102), σ)
set_option maxHeartbeats 4000000 in
set_option maxRecDepth 100000 in
theorem w_X8_root_31 {p : Program} {l : Launch} {e : Env} {R : Room} {s : State} {m : MethodId} {args : Array Value} {below : List Frame} {meth : Method} {c : Code} {D : va_G} {ad : Nat → Nat} {cI cJ cZ : ClassId} {res : Int32 × SS} (hm : mx p s m args meth c cX8_root 4 (some .int) wsX8_root RX8) (hR : 2 ≤ R.frames ∧ 43 ≤ R.locals) (hK : va_K D vwCl (tyw cI cJ cZ) s) (hD : ∀ σ, va_D (aM ad) (wM ad cI cJ cZ σ)) (σ : SS) (hf : p_X8_root_31 σ = some res) (H : Heap) (locs : List Loc) (ls : Array Slot) (hP : va_P D vwCl (wM ad cI cJ cZ σ) H) (hS : va_S (aM ad) s.heap H locs) (hl : lv_has ls 4 []) : W p l e R s m args below meth c H locs 0 0 (MQ below (va_Qi (fun (r : Int32) (u : SS) => (r, u) = res) (fun u t => va_P D vwCl (wM ad cI cJ cZ u) t.heap) (aM ad)) args s 0 0 (aM ad)) (F0 m 31 ls []) := by
  obtain ⟨hx, hb, hr, hml, hown, hts, hlk⟩ := id hm
  unfold p_X8_root_31 at hf
  refine lv_bipush (v := (-102)) hx hb dX8_root_31 (by decide) ?_
  exact rt_i (wd := wM ad cI cJ cZ) hx hb hr hlk (Option.some.inj hf) hP hS dX8_root_33
def p_X8_root_63 (t0 : Int32) (σ : SS) : Option (Int32 × SS) := some (t0, σ)
set_option maxHeartbeats 4000000 in
set_option maxRecDepth 100000 in
theorem w_X8_root_63 {p : Program} {l : Launch} {e : Env} {R : Room} {s : State} {m : MethodId} {args : Array Value} {below : List Frame} {meth : Method} {c : Code} {D : va_G} {ad : Nat → Nat} {cI cJ cZ : ClassId} {res : Int32 × SS} (hm : mx p s m args meth c cX8_root 4 (some .int) wsX8_root RX8) (hR : 2 ≤ R.frames ∧ 43 ≤ R.locals) (hK : va_K D vwCl (tyw cI cJ cZ) s) (hD : ∀ σ, va_D (aM ad) (wM ad cI cJ cZ σ)) (t0 : Int32) (σ : SS) (hf : p_X8_root_63 t0 σ = some res) (H : Heap) (locs : List Loc) (ls : Array Slot) (hP : va_P D vwCl (wM ad cI cJ cZ σ) H) (hS : va_S (aM ad) s.heap H locs) (hl : lv_has ls 4 []) : W p l e R s m args below meth c H locs 0 0 (MQ below (va_Qi (fun (r : Int32) (u : SS) => (r, u) = res) (fun u t => va_P D vwCl (wM ad cI cJ cZ u) t.heap) (aM ad)) args s 0 0 (aM ad)) (F0 m 63 ls [.int t0]) := by
  obtain ⟨hx, hb, hr, hml, hown, hts, hlk⟩ := id hm
  unfold p_X8_root_63 at hf
  exact rt_i (wd := wM ad cI cJ cZ) hx hb hr hlk (Option.some.inj hf) hP hS dX8_root_63
def p_X8_root_0 (v1 : Int32) (v2 : Int32) (σ : SS) : Option (Int32 × SS) := oc (p_X8_isMember_0 σ v1) (fun r_2 => if r_2 = 0 then some ((-101), σ) else oi v1 48 (if (σ.1 7 v1.toNatClampNeg) = 1 then p_X8_root_31 σ else oi v1 48 (if (σ.1 7 v1.toNatClampNeg) = 4 then p_X8_root_31 σ else oi v1 48 (oi v1 48 (ob v2 (os (sI σ 8 (v1.toNatClampNeg) v2) (fun s_47 => os (sI s_47 0 16 0) (fun s_50 => if (σ.1 8 v1.toNatClampNeg) = v2 then p_X8_root_63 0 s_50 else p_X8_root_63 1 s_50))))))))
set_option maxHeartbeats 4000000 in
set_option maxRecDepth 100000 in
theorem w_X8_root_0 {p : Program} {l : Launch} {e : Env} {R : Room} {s : State} {m : MethodId} {args : Array Value} {below : List Frame} {meth : Method} {c : Code} {D : va_G} {ad : Nat → Nat} {cI cJ cZ : ClassId} {res : Int32 × SS} (hm : mx p s m args meth c cX8_root 4 (some .int) wsX8_root RX8) (hR : 2 ≤ R.frames ∧ 43 ≤ R.locals) (hK : va_K D vwCl (tyw cI cJ cZ) s) (hD : ∀ σ, va_D (aM ad) (wM ad cI cJ cZ σ)) (v1 : Int32) (v2 : Int32) (σ : SS) (hf : p_X8_root_0 v1 v2 σ = some res) (H : Heap) (locs : List Loc) (ls : Array Slot) (hP : va_P D vwCl (wM ad cI cJ cZ σ) H) (hS : va_S (aM ad) s.heap H locs) (hl : lv_has ls 4 [(0, .ref (ad 0)), (1, .int v1), (2, .int v2)]) : W p l e R s m args below meth c H locs 0 0 (MQ below (va_Qi (fun (r : Int32) (u : SS) => (r, u) = res) (fun u t => va_P D vwCl (wM ad cI cJ cZ u) t.heap) (aM ad)) args s 0 0 (aM ad)) (F0 m 0 ls []) := by
  obtain ⟨hx, hb, hr, hml, hown, hts, hlk⟩ := id hm
  unfold p_X8_root_0 at hf
  refine lv_aload_n hx hb dX8_root_0 rfl (lv_at hl 0 rfl) ?_
  refine lv_iload_n hx hb dX8_root_1 rfl (lv_at hl 1 rfl) ?_
  obtain ⟨r_2, hg_2, hf⟩ := oc_e hf
  refine mV_ri (wd := wM ad cI cJ cZ) (σ := σ) (As := [.int v1]) (rest := []) ⟨hx, hb, hml, hown, hts⟩ hK hP hD hS (c_X8_isMember l D ad cI cJ cZ σ v1 hg_2) (cwV 1 hts gX8_root_X8_isMember rfl rfl rfl hd_X8_isMember ⟨Nat.le_trans (Nat.le_of_ble_eq_true rfl) hR.1, Nat.le_trans (Nat.le_of_ble_eq_true rfl) hR.2⟩) rfl (wM_0 _ _ _ _ _) rfl hl.1 rfl (Nat.le_of_ble_eq_true rfl) dX8_root_2 (fun H locs hP hS => ?_)
  refine lv_if_ne (tgt := 11) hx hb dX8_root_5 (by decide) (fun c_5 => ?_) (fun c_5 => ?_)
  · rw [if_neg c_5] at hf
    refine lv_aload_n hx hb dX8_root_11 rfl (lv_at hl 0 rfl) ?_
    refine va_get (D := D) (ci := 7) (v := .ref (ad 7)) (C := RX8) (T := TX8) (N := 50) hx hb hts in_X8_root_X8 hown hK hP 0 (wM_0 _ _ _ _ _) rfl 8 (by decide) (hts (.fieldLink RX8 28 "CallGraphsModel" "sortOf" "[I") (List.mem_of_getElem? (i := 1) rfl)) (fun _ h9 => h9) (fM_0_8 _ _) dX8_root_12 ?_
    refine lv_iload_n hx hb dX8_root_15 rfl (lv_at hl 1 rfl) ?_
    obtain ⟨h_16, hf⟩ := oi_e hf
    refine va_iald hx hb hK hP 7 0 (wM_7 _ _ _ _ _) rfl h_16 dX8_root_16 ?_
    refine lv_iconst (v := 1) hx hb dX8_root_17 (by decide) ?_
    refine lv_icmp_eq (tgt := 31) hx hb dX8_root_18 (by decide) (fun c_18 => ?_) (fun c_18 => ?_)
    · rw [if_pos c_18] at hf
      exact w_X8_root_31 hm hR hK hD σ hf _ _ _ hP hS (lv_sub hl [] rfl)
    · rw [if_neg c_18] at hf
      refine lv_aload_n hx hb dX8_root_21 rfl (lv_at hl 0 rfl) ?_
      refine va_get (D := D) (ci := 7) (v := .ref (ad 7)) (C := RX8) (T := TX8) (N := 50) hx hb hts in_X8_root_X8 hown hK hP 0 (wM_0 _ _ _ _ _) rfl 8 (by decide) (hts (.fieldLink RX8 28 "CallGraphsModel" "sortOf" "[I") (List.mem_of_getElem? (i := 1) rfl)) (fun _ h9 => h9) (fM_0_8 _ _) dX8_root_22 ?_
      refine lv_iload_n hx hb dX8_root_25 rfl (lv_at hl 1 rfl) ?_
      obtain ⟨h_26, hf⟩ := oi_e hf
      refine va_iald hx hb hK hP 7 0 (wM_7 _ _ _ _ _) rfl h_26 dX8_root_26 ?_
      refine lv_iconst (v := 4) hx hb dX8_root_27 (by decide) ?_
      refine lv_icmp_ne (tgt := 34) hx hb dX8_root_28 (by decide) (fun c_28 => ?_) (fun c_28 => ?_)
      · rw [if_neg c_28] at hf
        refine lv_aload_n hx hb dX8_root_34 rfl (lv_at hl 0 rfl) ?_
        refine va_get (D := D) (ci := 7) (v := .ref (ad 8)) (C := RX8) (T := TX8) (N := 50) hx hb hts in_X8_root_X8 hown hK hP 0 (wM_0 _ _ _ _ _) rfl 9 (by decide) (hts (.fieldLink RX8 31 "CallGraphsModel" "isRoot" "[Z") (List.mem_of_getElem? (i := 2) rfl)) (fun _ h9 => h9) (fM_0_9 _ _) dX8_root_35 ?_
        refine lv_iload_n hx hb dX8_root_38 rfl (lv_at hl 1 rfl) ?_
        obtain ⟨h_39, hf⟩ := oi_e hf
        refine va_zald hx hb hK hP 8 2 (wM_8 _ _ _ _ _) rfl h_39 dX8_root_39 ?_
        refine lv_istore_n (lv' := [(3, .int (σ.1 8 v1.toNatClampNeg)), (0, .ref (ad 0)), (1, .int v1), (2, .int v2)]) hx hb dX8_root_40 rfl hl (by decide) rfl (fun ls hl => ?_)
        refine lv_aload_n hx hb dX8_root_41 rfl (lv_at hl 1 rfl) ?_
        refine va_get (D := D) (ci := 7) (v := .ref (ad 8)) (C := RX8) (T := TX8) (N := 50) hx hb hts in_X8_root_X8 hown hK hP 0 (wM_0 _ _ _ _ _) rfl 9 (by decide) (hts (.fieldLink RX8 31 "CallGraphsModel" "isRoot" "[Z") (List.mem_of_getElem? (i := 2) rfl)) (fun _ h9 => h9) (fM_0_9 _ _) dX8_root_42 ?_
        refine lv_iload_n hx hb dX8_root_45 rfl (lv_at hl 2 rfl) ?_
        refine lv_iload_n hx hb dX8_root_46 rfl (lv_at hl 3 rfl) ?_
        obtain ⟨h_47, hf⟩ := oi_e hf
        obtain ⟨hb_47, hf⟩ := ob_e hf
        refine va_zast hx hb hK hP (hD _) hS 8 2 (wM_8 _ _ _ _ _) rfl h_47 dX8_root_47 (fun H locs hP _ hS => ?_)
        rw [nb_a hb_47] at hP
        have hP := wM_s8 hP
        obtain ⟨s_47, es_47, hf⟩ := os_e hf
        rw [← es_47] at hP
        refine lv_aload_n hx hb dX8_root_48 rfl (lv_at hl 1 rfl) ?_
        refine lv_iconst (v := 0) hx hb dX8_root_49 (by decide) ?_
        refine va_put (D := D) (ci := 7) (v := .int 0) (ty := .boolean) (C := RX8) (T := TX8) (N := 50) hx hb hts in_X8_root_X8 tyX8 tyX8_ok nmX8 hown hK hP (hD _) hS 0 (wM_0 _ _ _ _ _) rfl 16 (by decide) (hts (.fieldLink RX8 119 "CallGraphsModel" "isFresh" "Z") (List.mem_of_getElem? (i := 3) rfl)) (fun _ h9 => h9) rfl (tyX8_ok 16 (by decide)) (nb_n (Or.inl rfl)) (nb_f (Or.inl rfl)) (Nat.le_of_ble_eq_true rfl) dX8_root_50 (fun H locs hP _ hS => ?_)
        have hP := wM_p0_16 hP
        obtain ⟨s_50, es_50, hf⟩ := os_e hf
        rw [← es_50] at hP
        refine lv_iload_n hx hb dX8_root_53 rfl (lv_at hl 0 rfl) ?_
        refine lv_iload_n hx hb dX8_root_54 rfl (lv_at hl 3 rfl) ?_
        refine lv_icmp_eq (tgt := 62) hx hb dX8_root_55 (by decide) (fun c_55 => ?_) (fun c_55 => ?_)
        · rw [if_pos c_55] at hf
          refine lv_iconst (v := 0) hx hb dX8_root_62 (by decide) ?_
          exact w_X8_root_63 hm hR hK hD 0 s_50 hf _ _ _ hP hS (lv_sub hl [] rfl)
        · rw [if_neg c_55] at hf
          refine lv_iconst (v := 1) hx hb dX8_root_58 (by decide) ?_
          refine lv_goto (tgt := 63) hx hb dX8_root_59 (by decide) ?_
          exact w_X8_root_63 hm hR hK hD 1 s_50 hf _ _ _ hP hS (lv_sub hl [] rfl)
      · rw [if_pos c_28] at hf
        exact w_X8_root_31 hm hR hK hD σ hf _ _ _ hP hS (lv_sub hl [] rfl)
  · rw [if_pos c_5] at hf
    refine lv_bipush (v := (-101)) hx hb dX8_root_8 (by decide) ?_
    exact rt_i (wd := wM ad cI cJ cZ) hx hb hr hlk (Option.some.inj hf) hP hS dX8_root_10
theorem hd_X8_root : yX8_root.cls = RX8 ∧ yX8_root.cls ≠ "java/lang/invoke/MethodHandle" ∧ yX8_root.cls ≠ "java/lang/invoke/VarHandle" ∧ (parseMethodDescriptor yX8_root.desc).map (fun d => d.parameters.length) = some 2 := by decide +kernel
set_option maxHeartbeats 4000000 in
set_option maxRecDepth 100000 in
theorem c_X8_root (l : Launch) (D : va_G) (ad : Nat → Nat) (cI cJ cZ : ClassId) (σ : SS) (v1 : Int32) (v2 : Int32) {res : Int32 × SS} (hf : p_X8_root_0 v1 v2 σ = some res) : Met l yX8_root wsX8_root ({ frames := 2, cells := 0, slots := 0, locals := 43 } : Room) (PW D (tyw cI cJ cZ) (wM ad cI cJ cZ σ) [.ref (ad 0), .int v1, .int v2]) (va_Qi (fun (r : Int32) (u : SS) => (r, u) = res) (fun u t => va_P D vwCl (wM ad cI cJ cZ u) t.heap) (aM ad)) 0 0 (aM ad) := by
  refine Met.ofW (cc := cX8_root) (maxL := 4) (ret := (some .int)) (by decide) rfl ?_
  intro p e s m args below meth c s₁ B hml hv
  obtain ⟨rfl, hP, hK, hD0⟩ := hv
  have hD : ∀ σ, va_D (aM ad) (wM ad cI cJ cZ σ) := fun σ => wd_D hD0 (wM_map _ _ _ _ _) (wM_map _ _ _ _ _)
  have hm : mx p s m _ meth c cX8_root 4 (some .int) wsX8_root RX8 := ⟨B.exec, B.bytes, B.returns, hml, findClass_of_methodNamed B.named, atoms_spec (ws := wsX8_root) B.pre, B.notSynchronized⟩
  have hl := lv_entry ([.ref (ad 0), .int v1, .int v2]) (n := 4) (Nat.le_of_ble_eq_true rfl)
  rw [lg_entry_eq]
  generalize (lg_sl ([.ref (ad 0), .int v1, .int v2]) ++ List.replicate (4 - (lg_sl ([.ref (ad 0), .int v1, .int v2])).length) Slot.unset).toArray = ls at hl ⊢
  exact w_X8_root_0 hm ⟨Nat.le_refl _, Nat.le_refl _⟩ hK hD v1 v2 σ hf _ _ _ hP va_S.rf hl
/-! CallGraphsModel.findLeft(II)V -/
theorem in_X8_findLeft_X8 : ∀ w ∈ u_ws RX8 TX8 50, w ∈ wsX8_findLeft := fun w h => List.mem_cons_of_mem _ (List.mem_append_right _ h)
def p_X8_findLeft_50 (k2 : Int32 → Int32 → Int32 → SS → Option (SS)) (v1 : Int32) (v2 : Int32) (v3 : Int32) (t0 : Int32) (t1 : Int32) (σ : SS) : Option (SS) := oi t1 16 (ob t0 (os (sI σ 23 (t1.toNatClampNeg) t0) (fun s_50 => k2 v1 v2 (v3 + 1) s_50)))
set_option maxHeartbeats 4000000 in
set_option maxRecDepth 100000 in
theorem w_X8_findLeft_50 {p : Program} {l : Launch} {e : Env} {R : Room} {s : State} {m : MethodId} {args : Array Value} {below : List Frame} {meth : Method} {c : Code} {D : va_G} {ad : Nat → Nat} {cI cJ cZ : ClassId} {res : SS} (hm : mx p s m args meth c cX8_findLeft 7 none wsX8_findLeft RX8) (hR : 2 ≤ R.frames ∧ 47 ≤ R.locals) (hK : va_K D vwCl (tyw cI cJ cZ) s) (hD : ∀ σ, va_D (aM ad) (wM ad cI cJ cZ σ)) (k2 : Int32 → Int32 → Int32 → SS → Option (SS)) (hk2 : ∀ (v1 : Int32) (v2 : Int32) (v3 : Int32) (σ : SS), k2 v1 v2 v3 σ = some res → ∀ (H : Heap) (locs : List Loc) (ls : Array Slot), va_P D vwCl (wM ad cI cJ cZ σ) H → va_S (aM ad) s.heap H locs → lv_has ls 7 [(0, .ref (ad 0)), (1, .int v1), (2, .int v2), (3, .int v3)] → W p l e R s m args below meth c H locs 0 0 (MQ below (va_Qv (fun (u : SS) => u = res) (fun u t => va_P D vwCl (wM ad cI cJ cZ u) t.heap) (aM ad)) args s 0 0 (aM ad)) (F0 m 2 ls [])) (v1 : Int32) (v2 : Int32) (v3 : Int32) (t0 : Int32) (t1 : Int32) (σ : SS) (hf : p_X8_findLeft_50 k2 v1 v2 v3 t0 t1 σ = some res) (H : Heap) (locs : List Loc) (ls : Array Slot) (hP : va_P D vwCl (wM ad cI cJ cZ σ) H) (hS : va_S (aM ad) s.heap H locs) (hl : lv_has ls 7 [(0, .ref (ad 0)), (1, .int v1), (2, .int v2), (3, .int v3)]) : W p l e R s m args below meth c H locs 0 0 (MQ below (va_Qv (fun (u : SS) => u = res) (fun u t => va_P D vwCl (wM ad cI cJ cZ u) t.heap) (aM ad)) args s 0 0 (aM ad)) (F0 m 50 ls [.int t0, .int t1, .ref (ad 23)]) := by
  obtain ⟨hx, hb, hr, hml, hown, hts, hlk⟩ := id hm
  unfold p_X8_findLeft_50 at hf
  obtain ⟨h_50, hf⟩ := oi_e hf
  obtain ⟨hb_50, hf⟩ := ob_e hf
  refine va_zast hx hb hK hP (hD _) hS 23 2 (wM_23 _ _ _ _ _) rfl h_50 dX8_findLeft_50 (fun H locs hP _ hS => ?_)
  rw [nb_a hb_50] at hP
  have hP := wM_s23 hP
  obtain ⟨s_50, es_50, hf⟩ := os_e hf
  rw [← es_50] at hP
  refine lv_iinc (v := (v3 + 1)) (lv' := [(3, .int (v3 + 1)), (0, .ref (ad 0)), (1, .int v1), (2, .int v2)]) hx hb dX8_findLeft_51 hl (k := 3) rfl rfl (by decide) rfl (fun ls hl => ?_)
  refine lv_goto (tgt := 2) hx hb dX8_findLeft_54 (by decide) ?_
  exact hk2 v1 v2 (v3 + 1) s_50 hf _ _ _ hP hS (lv_sub hl [1, 2, 3, 0] rfl)
def p_X8_findLeft_49 (k2 : Int32 → Int32 → Int32 → SS → Option (SS)) (v1 : Int32) (v2 : Int32) (v3 : Int32) (t0 : Int32) (σ : SS) : Option (SS) := p_X8_findLeft_50 k2 v1 v2 v3 0 t0 σ
set_option maxHeartbeats 4000000 in
set_option maxRecDepth 100000 in
theorem w_X8_findLeft_49 {p : Program} {l : Launch} {e : Env} {R : Room} {s : State} {m : MethodId} {args : Array Value} {below : List Frame} {meth : Method} {c : Code} {D : va_G} {ad : Nat → Nat} {cI cJ cZ : ClassId} {res : SS} (hm : mx p s m args meth c cX8_findLeft 7 none wsX8_findLeft RX8) (hR : 2 ≤ R.frames ∧ 47 ≤ R.locals) (hK : va_K D vwCl (tyw cI cJ cZ) s) (hD : ∀ σ, va_D (aM ad) (wM ad cI cJ cZ σ)) (k2 : Int32 → Int32 → Int32 → SS → Option (SS)) (hk2 : ∀ (v1 : Int32) (v2 : Int32) (v3 : Int32) (σ : SS), k2 v1 v2 v3 σ = some res → ∀ (H : Heap) (locs : List Loc) (ls : Array Slot), va_P D vwCl (wM ad cI cJ cZ σ) H → va_S (aM ad) s.heap H locs → lv_has ls 7 [(0, .ref (ad 0)), (1, .int v1), (2, .int v2), (3, .int v3)] → W p l e R s m args below meth c H locs 0 0 (MQ below (va_Qv (fun (u : SS) => u = res) (fun u t => va_P D vwCl (wM ad cI cJ cZ u) t.heap) (aM ad)) args s 0 0 (aM ad)) (F0 m 2 ls [])) (v1 : Int32) (v2 : Int32) (v3 : Int32) (t0 : Int32) (σ : SS) (hf : p_X8_findLeft_49 k2 v1 v2 v3 t0 σ = some res) (H : Heap) (locs : List Loc) (ls : Array Slot) (hP : va_P D vwCl (wM ad cI cJ cZ σ) H) (hS : va_S (aM ad) s.heap H locs) (hl : lv_has ls 7 [(0, .ref (ad 0)), (1, .int v1), (2, .int v2), (3, .int v3)]) : W p l e R s m args below meth c H locs 0 0 (MQ below (va_Qv (fun (u : SS) => u = res) (fun u t => va_P D vwCl (wM ad cI cJ cZ u) t.heap) (aM ad)) args s 0 0 (aM ad)) (F0 m 49 ls [.int t0, .ref (ad 23)]) := by
  obtain ⟨hx, hb, hr, hml, hown, hts, hlk⟩ := id hm
  unfold p_X8_findLeft_49 at hf
  refine lv_iconst (v := 0) hx hb dX8_findLeft_49 (by decide) ?_
  exact w_X8_findLeft_50 hm hR hK hD k2 hk2 v1 v2 v3 0 t0 σ hf _ _ _ hP hS (lv_sub hl [0, 1, 2, 3] rfl)
def p_X8_findLeft_138 (k59 : Int32 → Int32 → SS → Option (SS)) (v2 : Int32) (v3 : Int32) (t0 : Int32) (t1 : Int32) (σ : SS) : Option (SS) := oi t1 48 (ob t0 (os (sI σ 22 (t1.toNatClampNeg) t0) (fun s_138 => k59 v2 (v3 + 1) s_138)))
set_option maxHeartbeats 4000000 in
set_option maxRecDepth 100000 in
theorem w_X8_findLeft_138 {p : Program} {l : Launch} {e : Env} {R : Room} {s : State} {m : MethodId} {args : Array Value} {below : List Frame} {meth : Method} {c : Code} {D : va_G} {ad : Nat → Nat} {cI cJ cZ : ClassId} {res : SS} (hm : mx p s m args meth c cX8_findLeft 7 none wsX8_findLeft RX8) (hR : 2 ≤ R.frames ∧ 47 ≤ R.locals) (hK : va_K D vwCl (tyw cI cJ cZ) s) (hD : ∀ σ, va_D (aM ad) (wM ad cI cJ cZ σ)) (k59 : Int32 → Int32 → SS → Option (SS)) (hk59 : ∀ (v2 : Int32) (v3 : Int32) (σ : SS), k59 v2 v3 σ = some res → ∀ (H : Heap) (locs : List Loc) (ls : Array Slot), va_P D vwCl (wM ad cI cJ cZ σ) H → va_S (aM ad) s.heap H locs → lv_has ls 7 [(0, .ref (ad 0)), (2, .int v2), (3, .int v3)] → W p l e R s m args below meth c H locs 0 0 (MQ below (va_Qv (fun (u : SS) => u = res) (fun u t => va_P D vwCl (wM ad cI cJ cZ u) t.heap) (aM ad)) args s 0 0 (aM ad)) (F0 m 59 ls [])) (v2 : Int32) (v3 : Int32) (t0 : Int32) (t1 : Int32) (σ : SS) (hf : p_X8_findLeft_138 k59 v2 v3 t0 t1 σ = some res) (H : Heap) (locs : List Loc) (ls : Array Slot) (hP : va_P D vwCl (wM ad cI cJ cZ σ) H) (hS : va_S (aM ad) s.heap H locs) (hl : lv_has ls 7 [(0, .ref (ad 0)), (2, .int v2), (3, .int v3)]) : W p l e R s m args below meth c H locs 0 0 (MQ below (va_Qv (fun (u : SS) => u = res) (fun u t => va_P D vwCl (wM ad cI cJ cZ u) t.heap) (aM ad)) args s 0 0 (aM ad)) (F0 m 138 ls [.int t0, .int t1, .ref (ad 22)]) := by
  obtain ⟨hx, hb, hr, hml, hown, hts, hlk⟩ := id hm
  unfold p_X8_findLeft_138 at hf
  obtain ⟨h_138, hf⟩ := oi_e hf
  obtain ⟨hb_138, hf⟩ := ob_e hf
  refine va_zast hx hb hK hP (hD _) hS 22 2 (wM_22 _ _ _ _ _) rfl h_138 dX8_findLeft_138 (fun H locs hP _ hS => ?_)
  rw [nb_a hb_138] at hP
  have hP := wM_s22 hP
  obtain ⟨s_138, es_138, hf⟩ := os_e hf
  rw [← es_138] at hP
  refine lv_iinc (v := (v3 + 1)) (lv' := [(3, .int (v3 + 1)), (0, .ref (ad 0)), (2, .int v2)]) hx hb dX8_findLeft_139 hl (k := 2) rfl rfl (by decide) rfl (fun ls hl => ?_)
  refine lv_goto (tgt := 59) hx hb dX8_findLeft_142 (by decide) ?_
  exact hk59 v2 (v3 + 1) s_138 hf _ _ _ hP hS (lv_sub hl [1, 2, 0] rfl)
def p_X8_findLeft_133 (k59 : Int32 → Int32 → SS → Option (SS)) (v2 : Int32) (v3 : Int32) (t0 : Int32) (σ : SS) : Option (SS) := p_X8_findLeft_138 k59 v2 v3 1 t0 σ
set_option maxHeartbeats 4000000 in
set_option maxRecDepth 100000 in
theorem w_X8_findLeft_133 {p : Program} {l : Launch} {e : Env} {R : Room} {s : State} {m : MethodId} {args : Array Value} {below : List Frame} {meth : Method} {c : Code} {D : va_G} {ad : Nat → Nat} {cI cJ cZ : ClassId} {res : SS} (hm : mx p s m args meth c cX8_findLeft 7 none wsX8_findLeft RX8) (hR : 2 ≤ R.frames ∧ 47 ≤ R.locals) (hK : va_K D vwCl (tyw cI cJ cZ) s) (hD : ∀ σ, va_D (aM ad) (wM ad cI cJ cZ σ)) (k59 : Int32 → Int32 → SS → Option (SS)) (hk59 : ∀ (v2 : Int32) (v3 : Int32) (σ : SS), k59 v2 v3 σ = some res → ∀ (H : Heap) (locs : List Loc) (ls : Array Slot), va_P D vwCl (wM ad cI cJ cZ σ) H → va_S (aM ad) s.heap H locs → lv_has ls 7 [(0, .ref (ad 0)), (2, .int v2), (3, .int v3)] → W p l e R s m args below meth c H locs 0 0 (MQ below (va_Qv (fun (u : SS) => u = res) (fun u t => va_P D vwCl (wM ad cI cJ cZ u) t.heap) (aM ad)) args s 0 0 (aM ad)) (F0 m 59 ls [])) (v2 : Int32) (v3 : Int32) (t0 : Int32) (σ : SS) (hf : p_X8_findLeft_133 k59 v2 v3 t0 σ = some res) (H : Heap) (locs : List Loc) (ls : Array Slot) (hP : va_P D vwCl (wM ad cI cJ cZ σ) H) (hS : va_S (aM ad) s.heap H locs) (hl : lv_has ls 7 [(0, .ref (ad 0)), (2, .int v2), (3, .int v3)]) : W p l e R s m args below meth c H locs 0 0 (MQ below (va_Qv (fun (u : SS) => u = res) (fun u t => va_P D vwCl (wM ad cI cJ cZ u) t.heap) (aM ad)) args s 0 0 (aM ad)) (F0 m 133 ls [.int t0, .ref (ad 22)]) := by
  obtain ⟨hx, hb, hr, hml, hown, hts, hlk⟩ := id hm
  unfold p_X8_findLeft_133 at hf
  refine lv_iconst (v := 1) hx hb dX8_findLeft_133 (by decide) ?_
  refine lv_goto (tgt := 138) hx hb dX8_findLeft_134 (by decide) ?_
  exact w_X8_findLeft_138 hm hR hK hD k59 hk59 v2 v3 1 t0 σ hf _ _ _ hP hS (lv_sub hl [0, 1, 2] rfl)
def p_X8_findLeft_137 (k59 : Int32 → Int32 → SS → Option (SS)) (v2 : Int32) (v3 : Int32) (t0 : Int32) (σ : SS) : Option (SS) := p_X8_findLeft_138 k59 v2 v3 0 t0 σ
set_option maxHeartbeats 4000000 in
set_option maxRecDepth 100000 in
theorem w_X8_findLeft_137 {p : Program} {l : Launch} {e : Env} {R : Room} {s : State} {m : MethodId} {args : Array Value} {below : List Frame} {meth : Method} {c : Code} {D : va_G} {ad : Nat → Nat} {cI cJ cZ : ClassId} {res : SS} (hm : mx p s m args meth c cX8_findLeft 7 none wsX8_findLeft RX8) (hR : 2 ≤ R.frames ∧ 47 ≤ R.locals) (hK : va_K D vwCl (tyw cI cJ cZ) s) (hD : ∀ σ, va_D (aM ad) (wM ad cI cJ cZ σ)) (k59 : Int32 → Int32 → SS → Option (SS)) (hk59 : ∀ (v2 : Int32) (v3 : Int32) (σ : SS), k59 v2 v3 σ = some res → ∀ (H : Heap) (locs : List Loc) (ls : Array Slot), va_P D vwCl (wM ad cI cJ cZ σ) H → va_S (aM ad) s.heap H locs → lv_has ls 7 [(0, .ref (ad 0)), (2, .int v2), (3, .int v3)] → W p l e R s m args below meth c H locs 0 0 (MQ below (va_Qv (fun (u : SS) => u = res) (fun u t => va_P D vwCl (wM ad cI cJ cZ u) t.heap) (aM ad)) args s 0 0 (aM ad)) (F0 m 59 ls [])) (v2 : Int32) (v3 : Int32) (t0 : Int32) (σ : SS) (hf : p_X8_findLeft_137 k59 v2 v3 t0 σ = some res) (H : Heap) (locs : List Loc) (ls : Array Slot) (hP : va_P D vwCl (wM ad cI cJ cZ σ) H) (hS : va_S (aM ad) s.heap H locs) (hl : lv_has ls 7 [(0, .ref (ad 0)), (2, .int v2), (3, .int v3)]) : W p l e R s m args below meth c H locs 0 0 (MQ below (va_Qv (fun (u : SS) => u = res) (fun u t => va_P D vwCl (wM ad cI cJ cZ u) t.heap) (aM ad)) args s 0 0 (aM ad)) (F0 m 137 ls [.int t0, .ref (ad 22)]) := by
  obtain ⟨hx, hb, hr, hml, hown, hts, hlk⟩ := id hm
  unfold p_X8_findLeft_137 at hf
  refine lv_iconst (v := 0) hx hb dX8_findLeft_137 (by decide) ?_
  exact w_X8_findLeft_138 hm hR hK hD k59 hk59 v2 v3 0 t0 σ hf _ _ _ hP hS (lv_sub hl [0, 1, 2] rfl)
def p_X8_findLeft_102 (k59 : Int32 → Int32 → SS → Option (SS)) (v2 : Int32) (v3 : Int32) (t0 : Int32) (σ : SS) : Option (SS) := if t0 = 0 then p_X8_findLeft_137 k59 v2 v3 v3 σ else oi v3 48 (if (σ.1 7 v3.toNatClampNeg) = 0 then p_X8_findLeft_133 k59 v2 v3 v3 σ else oi v3 48 (if (σ.1 7 v3.toNatClampNeg) = 1 then p_X8_findLeft_133 k59 v2 v3 v3 σ else p_X8_findLeft_137 k59 v2 v3 v3 σ))
set_option maxHeartbeats 4000000 in
set_option maxRecDepth 100000 in
theorem w_X8_findLeft_102 {p : Program} {l : Launch} {e : Env} {R : Room} {s : State} {m : MethodId} {args : Array Value} {below : List Frame} {meth : Method} {c : Code} {D : va_G} {ad : Nat → Nat} {cI cJ cZ : ClassId} {res : SS} (hm : mx p s m args meth c cX8_findLeft 7 none wsX8_findLeft RX8) (hR : 2 ≤ R.frames ∧ 47 ≤ R.locals) (hK : va_K D vwCl (tyw cI cJ cZ) s) (hD : ∀ σ, va_D (aM ad) (wM ad cI cJ cZ σ)) (k59 : Int32 → Int32 → SS → Option (SS)) (hk59 : ∀ (v2 : Int32) (v3 : Int32) (σ : SS), k59 v2 v3 σ = some res → ∀ (H : Heap) (locs : List Loc) (ls : Array Slot), va_P D vwCl (wM ad cI cJ cZ σ) H → va_S (aM ad) s.heap H locs → lv_has ls 7 [(0, .ref (ad 0)), (2, .int v2), (3, .int v3)] → W p l e R s m args below meth c H locs 0 0 (MQ below (va_Qv (fun (u : SS) => u = res) (fun u t => va_P D vwCl (wM ad cI cJ cZ u) t.heap) (aM ad)) args s 0 0 (aM ad)) (F0 m 59 ls [])) (v2 : Int32) (v3 : Int32) (t0 : Int32) (σ : SS) (hf : p_X8_findLeft_102 k59 v2 v3 t0 σ = some res) (H : Heap) (locs : List Loc) (ls : Array Slot) (hP : va_P D vwCl (wM ad cI cJ cZ σ) H) (hS : va_S (aM ad) s.heap H locs) (hl : lv_has ls 7 [(0, .ref (ad 0)), (2, .int v2), (3, .int v3)]) : W p l e R s m args below meth c H locs 0 0 (MQ below (va_Qv (fun (u : SS) => u = res) (fun u t => va_P D vwCl (wM ad cI cJ cZ u) t.heap) (aM ad)) args s 0 0 (aM ad)) (F0 m 102 ls [.int t0]) := by
  obtain ⟨hx, hb, hr, hml, hown, hts, hlk⟩ := id hm
  unfold p_X8_findLeft_102 at hf
  refine lv_istore (lv' := [(4, .int t0), (0, .ref (ad 0)), (2, .int v2), (3, .int v3)]) hx hb dX8_findLeft_102 hl (by decide) rfl (fun ls hl => ?_)
  refine lv_aload_n hx hb dX8_findLeft_104 rfl (lv_at hl 1 rfl) ?_
  refine va_get (D := D) (ci := 7) (v := .ref (ad 22)) (C := RX8) (T := TX8) (N := 50) hx hb hts in_X8_findLeft_X8 hown hK hP 0 (wM_0 _ _ _ _ _) rfl 27 (by decide) (hts (.fieldLink RX8 74 "CallGraphsModel" "left" "[Z") (List.mem_of_getElem? (i := 7) rfl)) (fun _ h9 => h9) (fM_0_27 _ _) dX8_findLeft_105 ?_
  refine lv_iload_n hx hb dX8_findLeft_108 rfl (lv_at hl 3 rfl) ?_
  refine lv_iload hx hb dX8_findLeft_109 (lv_at hl 0 rfl) ?_
  refine lv_if_eq (tgt := 137) hx hb dX8_findLeft_111 (by decide) (fun c_111 => ?_) (fun c_111 => ?_)
  · rw [if_pos c_111] at hf
    exact w_X8_findLeft_137 hm hR hK hD k59 hk59 v2 v3 v3 σ hf _ _ _ hP hS (lv_sub hl [1, 2, 3] rfl)
  · rw [if_neg c_111] at hf
    refine lv_aload_n hx hb dX8_findLeft_114 rfl (lv_at hl 1 rfl) ?_
    refine va_get (D := D) (ci := 7) (v := .ref (ad 7)) (C := RX8) (T := TX8) (N := 50) hx hb hts in_X8_findLeft_X8 hown hK hP 0 (wM_0 _ _ _ _ _) rfl 8 (by decide) (hts (.fieldLink RX8 28 "CallGraphsModel" "sortOf" "[I") (List.mem_of_getElem? (i := 8) rfl)) (fun _ h9 => h9) (fM_0_8 _ _) dX8_findLeft_115 ?_
    refine lv_iload_n hx hb dX8_findLeft_118 rfl (lv_at hl 3 rfl) ?_
    obtain ⟨h_119, hf⟩ := oi_e hf
    refine va_iald hx hb hK hP 7 0 (wM_7 _ _ _ _ _) rfl h_119 dX8_findLeft_119 ?_
    refine lv_if_eq (tgt := 133) hx hb dX8_findLeft_120 (by decide) (fun c_120 => ?_) (fun c_120 => ?_)
    · rw [if_pos c_120] at hf
      exact w_X8_findLeft_133 hm hR hK hD k59 hk59 v2 v3 v3 σ hf _ _ _ hP hS (lv_sub hl [1, 2, 3] rfl)
    · rw [if_neg c_120] at hf
      refine lv_aload_n hx hb dX8_findLeft_123 rfl (lv_at hl 1 rfl) ?_
      refine va_get (D := D) (ci := 7) (v := .ref (ad 7)) (C := RX8) (T := TX8) (N := 50) hx hb hts in_X8_findLeft_X8 hown hK hP 0 (wM_0 _ _ _ _ _) rfl 8 (by decide) (hts (.fieldLink RX8 28 "CallGraphsModel" "sortOf" "[I") (List.mem_of_getElem? (i := 8) rfl)) (fun _ h9 => h9) (fM_0_8 _ _) dX8_findLeft_124 ?_
      refine lv_iload_n hx hb dX8_findLeft_127 rfl (lv_at hl 3 rfl) ?_
      obtain ⟨h_128, hf⟩ := oi_e hf
      refine va_iald hx hb hK hP 7 0 (wM_7 _ _ _ _ _) rfl h_128 dX8_findLeft_128 ?_
      refine lv_iconst (v := 1) hx hb dX8_findLeft_129 (by decide) ?_
      refine lv_icmp_ne (tgt := 137) hx hb dX8_findLeft_130 (by decide) (fun c_130 => ?_) (fun c_130 => ?_)
      · rw [if_neg c_130] at hf
        exact w_X8_findLeft_137 hm hR hK hD k59 hk59 v2 v3 v3 σ hf _ _ _ hP hS (lv_sub hl [1, 2, 3] rfl)
      · rw [if_pos c_130] at hf
        exact w_X8_findLeft_133 hm hR hK hD k59 hk59 v2 v3 v3 σ hf _ _ _ hP hS (lv_sub hl [1, 2, 3] rfl)
def p_X8_findLeft_101 (k59 : Int32 → Int32 → SS → Option (SS)) (v2 : Int32) (v3 : Int32) (σ : SS) : Option (SS) := p_X8_findLeft_102 k59 v2 v3 0 σ
set_option maxHeartbeats 4000000 in
set_option maxRecDepth 100000 in
theorem w_X8_findLeft_101 {p : Program} {l : Launch} {e : Env} {R : Room} {s : State} {m : MethodId} {args : Array Value} {below : List Frame} {meth : Method} {c : Code} {D : va_G} {ad : Nat → Nat} {cI cJ cZ : ClassId} {res : SS} (hm : mx p s m args meth c cX8_findLeft 7 none wsX8_findLeft RX8) (hR : 2 ≤ R.frames ∧ 47 ≤ R.locals) (hK : va_K D vwCl (tyw cI cJ cZ) s) (hD : ∀ σ, va_D (aM ad) (wM ad cI cJ cZ σ)) (k59 : Int32 → Int32 → SS → Option (SS)) (hk59 : ∀ (v2 : Int32) (v3 : Int32) (σ : SS), k59 v2 v3 σ = some res → ∀ (H : Heap) (locs : List Loc) (ls : Array Slot), va_P D vwCl (wM ad cI cJ cZ σ) H → va_S (aM ad) s.heap H locs → lv_has ls 7 [(0, .ref (ad 0)), (2, .int v2), (3, .int v3)] → W p l e R s m args below meth c H locs 0 0 (MQ below (va_Qv (fun (u : SS) => u = res) (fun u t => va_P D vwCl (wM ad cI cJ cZ u) t.heap) (aM ad)) args s 0 0 (aM ad)) (F0 m 59 ls [])) (v2 : Int32) (v3 : Int32) (σ : SS) (hf : p_X8_findLeft_101 k59 v2 v3 σ = some res) (H : Heap) (locs : List Loc) (ls : Array Slot) (hP : va_P D vwCl (wM ad cI cJ cZ σ) H) (hS : va_S (aM ad) s.heap H locs) (hl : lv_has ls 7 [(0, .ref (ad 0)), (2, .int v2), (3, .int v3)]) : W p l e R s m args below meth c H locs 0 0 (MQ below (va_Qv (fun (u : SS) => u = res) (fun u t => va_P D vwCl (wM ad cI cJ cZ u) t.heap) (aM ad)) args s 0 0 (aM ad)) (F0 m 101 ls []) := by
  obtain ⟨hx, hb, hr, hml, hown, hts, hlk⟩ := id hm
  unfold p_X8_findLeft_101 at hf
  refine lv_iconst (v := 0) hx hb dX8_findLeft_101 (by decide) ?_
  exact w_X8_findLeft_102 hm hR hK hD k59 hk59 v2 v3 0 σ hf _ _ _ hP hS (lv_sub hl [0, 1, 2] rfl)
def p_X8_findLeft_280 (k147 : Int32 → Int32 → SS → Option (SS)) (k166 : Int32 → Int32 → Int32 → Int32 → SS → Option (SS)) (v2 : Int32) (v3 : Int32) (v5 : Int32) (t0 : Int32) (σ : SS) : Option (SS) := k166 v2 v3 t0 (v5 + 1) σ
set_option maxHeartbeats 4000000 in
set_option maxRecDepth 100000 in
theorem w_X8_findLeft_280 {p : Program} {l : Launch} {e : Env} {R : Room} {s : State} {m : MethodId} {args : Array Value} {below : List Frame} {meth : Method} {c : Code} {D : va_G} {ad : Nat → Nat} {cI cJ cZ : ClassId} {res : SS} (hm : mx p s m args meth c cX8_findLeft 7 none wsX8_findLeft RX8) (hR : 2 ≤ R.frames ∧ 47 ≤ R.locals) (hK : va_K D vwCl (tyw cI cJ cZ) s) (hD : ∀ σ, va_D (aM ad) (wM ad cI cJ cZ σ)) (k147 : Int32 → Int32 → SS → Option (SS)) (hk147 : ∀ (v2 : Int32) (v3 : Int32) (σ : SS), k147 v2 v3 σ = some res → ∀ (H : Heap) (locs : List Loc) (ls : Array Slot), va_P D vwCl (wM ad cI cJ cZ σ) H → va_S (aM ad) s.heap H locs → lv_has ls 7 [(0, .ref (ad 0)), (2, .int v2), (3, .int v3)] → W p l e R s m args below meth c H locs 0 0 (MQ below (va_Qv (fun (u : SS) => u = res) (fun u t => va_P D vwCl (wM ad cI cJ cZ u) t.heap) (aM ad)) args s 0 0 (aM ad)) (F0 m 147 ls [])) (k166 : Int32 → Int32 → Int32 → Int32 → SS → Option (SS)) (hk166 : ∀ (v2 : Int32) (v3 : Int32) (v4 : Int32) (v5 : Int32) (σ : SS), k166 v2 v3 v4 v5 σ = some res → ∀ (H : Heap) (locs : List Loc) (ls : Array Slot), va_P D vwCl (wM ad cI cJ cZ σ) H → va_S (aM ad) s.heap H locs → lv_has ls 7 [(0, .ref (ad 0)), (2, .int v2), (3, .int v3), (4, .int v4), (5, .int v5)] → W p l e R s m args below meth c H locs 0 0 (MQ below (va_Qv (fun (u : SS) => u = res) (fun u t => va_P D vwCl (wM ad cI cJ cZ u) t.heap) (aM ad)) args s 0 0 (aM ad)) (F0 m 166 ls [])) (v2 : Int32) (v3 : Int32) (v5 : Int32) (t0 : Int32) (σ : SS) (hf : p_X8_findLeft_280 k147 k166 v2 v3 v5 t0 σ = some res) (H : Heap) (locs : List Loc) (ls : Array Slot) (hP : va_P D vwCl (wM ad cI cJ cZ σ) H) (hS : va_S (aM ad) s.heap H locs) (hl : lv_has ls 7 [(0, .ref (ad 0)), (2, .int v2), (3, .int v3), (5, .int v5)]) : W p l e R s m args below meth c H locs 0 0 (MQ below (va_Qv (fun (u : SS) => u = res) (fun u t => va_P D vwCl (wM ad cI cJ cZ u) t.heap) (aM ad)) args s 0 0 (aM ad)) (F0 m 280 ls [.int t0]) := by
  obtain ⟨hx, hb, hr, hml, hown, hts, hlk⟩ := id hm
  unfold p_X8_findLeft_280 at hf
  refine lv_istore (lv' := [(4, .int t0), (0, .ref (ad 0)), (2, .int v2), (3, .int v3), (5, .int v5)]) hx hb dX8_findLeft_280 hl (by decide) rfl (fun ls hl => ?_)
  refine lv_iinc (v := (v5 + 1)) (lv' := [(5, .int (v5 + 1)), (4, .int t0), (0, .ref (ad 0)), (2, .int v2), (3, .int v3)]) hx hb dX8_findLeft_282 hl (k := 4) rfl rfl (by decide) rfl (fun ls hl => ?_)
  refine lv_goto (tgt := 166) hx hb dX8_findLeft_285 (by decide) ?_
  exact hk166 v2 v3 t0 (v5 + 1) σ hf _ _ _ hP hS (lv_sub hl [2, 3, 4, 1, 0] rfl)
def p_X8_findLeft_275 (k147 : Int32 → Int32 → SS → Option (SS)) (k166 : Int32 → Int32 → Int32 → Int32 → SS → Option (SS)) (v2 : Int32) (v3 : Int32) (v5 : Int32) (σ : SS) : Option (SS) := p_X8_findLeft_280 k147 k166 v2 v3 v5 1 σ
set_option maxHeartbeats 4000000 in
set_option maxRecDepth 100000 in
theorem w_X8_findLeft_275 {p : Program} {l : Launch} {e : Env} {R : Room} {s : State} {m : MethodId} {args : Array Value} {below : List Frame} {meth : Method} {c : Code} {D : va_G} {ad : Nat → Nat} {cI cJ cZ : ClassId} {res : SS} (hm : mx p s m args meth c cX8_findLeft 7 none wsX8_findLeft RX8) (hR : 2 ≤ R.frames ∧ 47 ≤ R.locals) (hK : va_K D vwCl (tyw cI cJ cZ) s) (hD : ∀ σ, va_D (aM ad) (wM ad cI cJ cZ σ)) (k147 : Int32 → Int32 → SS → Option (SS)) (hk147 : ∀ (v2 : Int32) (v3 : Int32) (σ : SS), k147 v2 v3 σ = some res → ∀ (H : Heap) (locs : List Loc) (ls : Array Slot), va_P D vwCl (wM ad cI cJ cZ σ) H → va_S (aM ad) s.heap H locs → lv_has ls 7 [(0, .ref (ad 0)), (2, .int v2), (3, .int v3)] → W p l e R s m args below meth c H locs 0 0 (MQ below (va_Qv (fun (u : SS) => u = res) (fun u t => va_P D vwCl (wM ad cI cJ cZ u) t.heap) (aM ad)) args s 0 0 (aM ad)) (F0 m 147 ls [])) (k166 : Int32 → Int32 → Int32 → Int32 → SS → Option (SS)) (hk166 : ∀ (v2 : Int32) (v3 : Int32) (v4 : Int32) (v5 : Int32) (σ : SS), k166 v2 v3 v4 v5 σ = some res → ∀ (H : Heap) (locs : List Loc) (ls : Array Slot), va_P D vwCl (wM ad cI cJ cZ σ) H → va_S (aM ad) s.heap H locs → lv_has ls 7 [(0, .ref (ad 0)), (2, .int v2), (3, .int v3), (4, .int v4), (5, .int v5)] → W p l e R s m args below meth c H locs 0 0 (MQ below (va_Qv (fun (u : SS) => u = res) (fun u t => va_P D vwCl (wM ad cI cJ cZ u) t.heap) (aM ad)) args s 0 0 (aM ad)) (F0 m 166 ls [])) (v2 : Int32) (v3 : Int32) (v5 : Int32) (σ : SS) (hf : p_X8_findLeft_275 k147 k166 v2 v3 v5 σ = some res) (H : Heap) (locs : List Loc) (ls : Array Slot) (hP : va_P D vwCl (wM ad cI cJ cZ σ) H) (hS : va_S (aM ad) s.heap H locs) (hl : lv_has ls 7 [(0, .ref (ad 0)), (2, .int v2), (3, .int v3), (5, .int v5)]) : W p l e R s m args below meth c H locs 0 0 (MQ below (va_Qv (fun (u : SS) => u = res) (fun u t => va_P D vwCl (wM ad cI cJ cZ u) t.heap) (aM ad)) args s 0 0 (aM ad)) (F0 m 275 ls []) := by
  obtain ⟨hx, hb, hr, hml, hown, hts, hlk⟩ := id hm
  unfold p_X8_findLeft_275 at hf
  refine lv_iconst (v := 1) hx hb dX8_findLeft_275 (by decide) ?_
  refine lv_goto (tgt := 280) hx hb dX8_findLeft_276 (by decide) ?_
  exact w_X8_findLeft_280 hm hR hK hD k147 hk147 k166 hk166 v2 v3 v5 1 σ hf _ _ _ hP hS (lv_sub hl [0, 1, 2, 3] rfl)
def p_X8_findLeft_232 (k147 : Int32 → Int32 → SS → Option (SS)) (k166 : Int32 → Int32 → Int32 → Int32 → SS → Option (SS)) (v2 : Int32) (v3 : Int32) (v5 : Int32) (t0 : Int32) (σ : SS) : Option (SS) := if t0 = 0 then p_X8_findLeft_275 k147 k166 v2 v3 v5 σ else oi v5 48 (oi v3 48 (if (σ.1 5 v5.toNatClampNeg) = (σ.1 5 v3.toNatClampNeg) then p_X8_findLeft_275 k147 k166 v2 v3 v5 σ else oi v5 48 (oi v3 48 (oc (p_X8_isUnder_0 (σ.1 5 v5.toNatClampNeg) (σ.1 5 v3.toNatClampNeg) σ) (fun r_269 => if r_269.1 = 0 then p_X8_findLeft_275 k147 k166 v2 v3 v5 r_269.2 else p_X8_findLeft_280 k147 k166 v2 v3 v5 0 r_269.2)))))
set_option maxHeartbeats 4000000 in
set_option maxRecDepth 100000 in
theorem w_X8_findLeft_232 {p : Program} {l : Launch} {e : Env} {R : Room} {s : State} {m : MethodId} {args : Array Value} {below : List Frame} {meth : Method} {c : Code} {D : va_G} {ad : Nat → Nat} {cI cJ cZ : ClassId} {res : SS} (hm : mx p s m args meth c cX8_findLeft 7 none wsX8_findLeft RX8) (hR : 2 ≤ R.frames ∧ 47 ≤ R.locals) (hK : va_K D vwCl (tyw cI cJ cZ) s) (hD : ∀ σ, va_D (aM ad) (wM ad cI cJ cZ σ)) (k147 : Int32 → Int32 → SS → Option (SS)) (hk147 : ∀ (v2 : Int32) (v3 : Int32) (σ : SS), k147 v2 v3 σ = some res → ∀ (H : Heap) (locs : List Loc) (ls : Array Slot), va_P D vwCl (wM ad cI cJ cZ σ) H → va_S (aM ad) s.heap H locs → lv_has ls 7 [(0, .ref (ad 0)), (2, .int v2), (3, .int v3)] → W p l e R s m args below meth c H locs 0 0 (MQ below (va_Qv (fun (u : SS) => u = res) (fun u t => va_P D vwCl (wM ad cI cJ cZ u) t.heap) (aM ad)) args s 0 0 (aM ad)) (F0 m 147 ls [])) (k166 : Int32 → Int32 → Int32 → Int32 → SS → Option (SS)) (hk166 : ∀ (v2 : Int32) (v3 : Int32) (v4 : Int32) (v5 : Int32) (σ : SS), k166 v2 v3 v4 v5 σ = some res → ∀ (H : Heap) (locs : List Loc) (ls : Array Slot), va_P D vwCl (wM ad cI cJ cZ σ) H → va_S (aM ad) s.heap H locs → lv_has ls 7 [(0, .ref (ad 0)), (2, .int v2), (3, .int v3), (4, .int v4), (5, .int v5)] → W p l e R s m args below meth c H locs 0 0 (MQ below (va_Qv (fun (u : SS) => u = res) (fun u t => va_P D vwCl (wM ad cI cJ cZ u) t.heap) (aM ad)) args s 0 0 (aM ad)) (F0 m 166 ls [])) (v2 : Int32) (v3 : Int32) (v5 : Int32) (t0 : Int32) (σ : SS) (hf : p_X8_findLeft_232 k147 k166 v2 v3 v5 t0 σ = some res) (H : Heap) (locs : List Loc) (ls : Array Slot) (hP : va_P D vwCl (wM ad cI cJ cZ σ) H) (hS : va_S (aM ad) s.heap H locs) (hl : lv_has ls 7 [(0, .ref (ad 0)), (2, .int v2), (3, .int v3), (5, .int v5)]) : W p l e R s m args below meth c H locs 0 0 (MQ below (va_Qv (fun (u : SS) => u = res) (fun u t => va_P D vwCl (wM ad cI cJ cZ u) t.heap) (aM ad)) args s 0 0 (aM ad)) (F0 m 232 ls [.int t0]) := by
  obtain ⟨hx, hb, hr, hml, hown, hts, hlk⟩ := id hm
  unfold p_X8_findLeft_232 at hf
  refine lv_istore (lv' := [(6, .int t0), (0, .ref (ad 0)), (2, .int v2), (3, .int v3), (5, .int v5)]) hx hb dX8_findLeft_232 hl (by decide) rfl (fun ls hl => ?_)
  refine lv_iload hx hb dX8_findLeft_234 (lv_at hl 0 rfl) ?_
  refine lv_if_eq (tgt := 275) hx hb dX8_findLeft_236 (by decide) (fun c_236 => ?_) (fun c_236 => ?_)
  · rw [if_pos c_236] at hf
    exact w_X8_findLeft_275 hm hR hK hD k147 hk147 k166 hk166 v2 v3 v5 σ hf _ _ _ hP hS (lv_sub hl [1, 2, 3, 4] rfl)
  · rw [if_neg c_236] at hf
    refine lv_aload_n hx hb dX8_findLeft_239 rfl (lv_at hl 1 rfl) ?_
    refine va_get (D := D) (ci := 7) (v := .ref (ad 5)) (C := RX8) (T := TX8) (N := 50) hx hb hts in_X8_findLeft_X8 hown hK hP 0 (wM_0 _ _ _ _ _) rfl 6 (by decide) (hts (.fieldLink RX8 22 "CallGraphsModel" "typeOf" "[I") (List.mem_of_getElem? (i := 6) rfl)) (fun _ h9 => h9) (fM_0_6 _ _) dX8_findLeft_240 ?_
    refine lv_iload hx hb dX8_findLeft_243 (lv_at hl 4 rfl) ?_
    obtain ⟨h_245, hf⟩ := oi_e hf
    refine va_iald hx hb hK hP 5 0 (wM_5 _ _ _ _ _) rfl h_245 dX8_findLeft_245 ?_
    refine lv_aload_n hx hb dX8_findLeft_246 rfl (lv_at hl 1 rfl) ?_
    refine va_get (D := D) (ci := 7) (v := .ref (ad 5)) (C := RX8) (T := TX8) (N := 50) hx hb hts in_X8_findLeft_X8 hown hK hP 0 (wM_0 _ _ _ _ _) rfl 6 (by decide) (hts (.fieldLink RX8 22 "CallGraphsModel" "typeOf" "[I") (List.mem_of_getElem? (i := 6) rfl)) (fun _ h9 => h9) (fM_0_6 _ _) dX8_findLeft_247 ?_
    refine lv_iload_n hx hb dX8_findLeft_250 rfl (lv_at hl 3 rfl) ?_
    obtain ⟨h_251, hf⟩ := oi_e hf
    refine va_iald hx hb hK hP 5 0 (wM_5 _ _ _ _ _) rfl h_251 dX8_findLeft_251 ?_
    refine lv_icmp_eq (tgt := 275) hx hb dX8_findLeft_252 (by decide) (fun c_252 => ?_) (fun c_252 => ?_)
    · rw [if_pos c_252] at hf
      exact w_X8_findLeft_275 hm hR hK hD k147 hk147 k166 hk166 v2 v3 v5 σ hf _ _ _ hP hS (lv_sub hl [1, 2, 3, 4] rfl)
    · rw [if_neg c_252] at hf
      refine lv_aload_n hx hb dX8_findLeft_255 rfl (lv_at hl 1 rfl) ?_
      refine lv_aload_n hx hb dX8_findLeft_256 rfl (lv_at hl 1 rfl) ?_
      refine va_get (D := D) (ci := 7) (v := .ref (ad 5)) (C := RX8) (T := TX8) (N := 50) hx hb hts in_X8_findLeft_X8 hown hK hP 0 (wM_0 _ _ _ _ _) rfl 6 (by decide) (hts (.fieldLink RX8 22 "CallGraphsModel" "typeOf" "[I") (List.mem_of_getElem? (i := 6) rfl)) (fun _ h9 => h9) (fM_0_6 _ _) dX8_findLeft_257 ?_
      refine lv_iload hx hb dX8_findLeft_260 (lv_at hl 4 rfl) ?_
      obtain ⟨h_262, hf⟩ := oi_e hf
      refine va_iald hx hb hK hP 5 0 (wM_5 _ _ _ _ _) rfl h_262 dX8_findLeft_262 ?_
      refine lv_aload_n hx hb dX8_findLeft_263 rfl (lv_at hl 1 rfl) ?_
      refine va_get (D := D) (ci := 7) (v := .ref (ad 5)) (C := RX8) (T := TX8) (N := 50) hx hb hts in_X8_findLeft_X8 hown hK hP 0 (wM_0 _ _ _ _ _) rfl 6 (by decide) (hts (.fieldLink RX8 22 "CallGraphsModel" "typeOf" "[I") (List.mem_of_getElem? (i := 6) rfl)) (fun _ h9 => h9) (fM_0_6 _ _) dX8_findLeft_264 ?_
      refine lv_iload_n hx hb dX8_findLeft_267 rfl (lv_at hl 3 rfl) ?_
      obtain ⟨h_268, hf⟩ := oi_e hf
      refine va_iald hx hb hK hP 5 0 (wM_5 _ _ _ _ _) rfl h_268 dX8_findLeft_268 ?_
      obtain ⟨r_269, hg_269, hf⟩ := oc_e hf
      refine mV_wi (wd := wM ad cI cJ cZ) (σ := σ) (As := [.int (σ.1 5 v5.toNatClampNeg), .int (σ.1 5 v3.toNatClampNeg)]) (rest := []) ⟨hx, hb, hml, hown, hts⟩ hK hP hD hS (c_X8_isUnder l D ad cI cJ cZ σ (σ.1 5 v5.toNatClampNeg) (σ.1 5 v3.toNatClampNeg) hg_269) (cwV 2 hts gX8_findLeft_X8_isUnder rfl rfl rfl hd_X8_isUnder ⟨Nat.le_trans (Nat.le_of_ble_eq_true rfl) hR.1, Nat.le_trans (Nat.le_of_ble_eq_true rfl) hR.2⟩) rfl (wM_0 _ _ _ _ _) rfl hl.1 rfl (Nat.le_of_ble_eq_true rfl) dX8_findLeft_269 (fun H locs hP hS => ?_)
      refine lv_if_ne (tgt := 279) hx hb dX8_findLeft_272 (by decide) (fun c_272 => ?_) (fun c_272 => ?_)
      · rw [if_neg c_272] at hf
        refine lv_iconst (v := 0) hx hb dX8_findLeft_279 (by decide) ?_
        exact w_X8_findLeft_280 hm hR hK hD k147 hk147 k166 hk166 v2 v3 v5 0 r_269.2 hf _ _ _ hP hS (lv_sub hl [1, 2, 3, 4] rfl)
      · rw [if_pos c_272] at hf
        exact w_X8_findLeft_275 hm hR hK hD k147 hk147 k166 hk166 v2 v3 v5 r_269.2 hf _ _ _ hP hS (lv_sub hl [1, 2, 3, 4] rfl)
def p_X8_findLeft_227 (k147 : Int32 → Int32 → SS → Option (SS)) (k166 : Int32 → Int32 → Int32 → Int32 → SS → Option (SS)) (v2 : Int32) (v3 : Int32) (v5 : Int32) (σ : SS) : Option (SS) := p_X8_findLeft_232 k147 k166 v2 v3 v5 1 σ
set_option maxHeartbeats 4000000 in
set_option maxRecDepth 100000 in
theorem w_X8_findLeft_227 {p : Program} {l : Launch} {e : Env} {R : Room} {s : State} {m : MethodId} {args : Array Value} {below : List Frame} {meth : Method} {c : Code} {D : va_G} {ad : Nat → Nat} {cI cJ cZ : ClassId} {res : SS} (hm : mx p s m args meth c cX8_findLeft 7 none wsX8_findLeft RX8) (hR : 2 ≤ R.frames ∧ 47 ≤ R.locals) (hK : va_K D vwCl (tyw cI cJ cZ) s) (hD : ∀ σ, va_D (aM ad) (wM ad cI cJ cZ σ)) (k147 : Int32 → Int32 → SS → Option (SS)) (hk147 : ∀ (v2 : Int32) (v3 : Int32) (σ : SS), k147 v2 v3 σ = some res → ∀ (H : Heap) (locs : List Loc) (ls : Array Slot), va_P D vwCl (wM ad cI cJ cZ σ) H → va_S (aM ad) s.heap H locs → lv_has ls 7 [(0, .ref (ad 0)), (2, .int v2), (3, .int v3)] → W p l e R s m args below meth c H locs 0 0 (MQ below (va_Qv (fun (u : SS) => u = res) (fun u t => va_P D vwCl (wM ad cI cJ cZ u) t.heap) (aM ad)) args s 0 0 (aM ad)) (F0 m 147 ls [])) (k166 : Int32 → Int32 → Int32 → Int32 → SS → Option (SS)) (hk166 : ∀ (v2 : Int32) (v3 : Int32) (v4 : Int32) (v5 : Int32) (σ : SS), k166 v2 v3 v4 v5 σ = some res → ∀ (H : Heap) (locs : List Loc) (ls : Array Slot), va_P D vwCl (wM ad cI cJ cZ σ) H → va_S (aM ad) s.heap H locs → lv_has ls 7 [(0, .ref (ad 0)), (2, .int v2), (3, .int v3), (4, .int v4), (5, .int v5)] → W p l e R s m args below meth c H locs 0 0 (MQ below (va_Qv (fun (u : SS) => u = res) (fun u t => va_P D vwCl (wM ad cI cJ cZ u) t.heap) (aM ad)) args s 0 0 (aM ad)) (F0 m 166 ls [])) (v2 : Int32) (v3 : Int32) (v5 : Int32) (σ : SS) (hf : p_X8_findLeft_227 k147 k166 v2 v3 v5 σ = some res) (H : Heap) (locs : List Loc) (ls : Array Slot) (hP : va_P D vwCl (wM ad cI cJ cZ σ) H) (hS : va_S (aM ad) s.heap H locs) (hl : lv_has ls 7 [(0, .ref (ad 0)), (2, .int v2), (3, .int v3), (5, .int v5)]) : W p l e R s m args below meth c H locs 0 0 (MQ below (va_Qv (fun (u : SS) => u = res) (fun u t => va_P D vwCl (wM ad cI cJ cZ u) t.heap) (aM ad)) args s 0 0 (aM ad)) (F0 m 227 ls []) := by
  obtain ⟨hx, hb, hr, hml, hown, hts, hlk⟩ := id hm
  unfold p_X8_findLeft_227 at hf
  refine lv_iconst (v := 1) hx hb dX8_findLeft_227 (by decide) ?_
  refine lv_goto (tgt := 232) hx hb dX8_findLeft_228 (by decide) ?_
  exact w_X8_findLeft_232 hm hR hK hD k147 hk147 k166 hk166 v2 v3 v5 1 σ hf _ _ _ hP hS (lv_sub hl [0, 1, 2, 3] rfl)
def p_X8_findLeft_231 (k147 : Int32 → Int32 → SS → Option (SS)) (k166 : Int32 → Int32 → Int32 → Int32 → SS → Option (SS)) (v2 : Int32) (v3 : Int32) (v5 : Int32) (σ : SS) : Option (SS) := p_X8_findLeft_232 k147 k166 v2 v3 v5 0 σ
set_option maxHeartbeats 4000000 in
set_option maxRecDepth 100000 in
theorem w_X8_findLeft_231 {p : Program} {l : Launch} {e : Env} {R : Room} {s : State} {m : MethodId} {args : Array Value} {below : List Frame} {meth : Method} {c : Code} {D : va_G} {ad : Nat → Nat} {cI cJ cZ : ClassId} {res : SS} (hm : mx p s m args meth c cX8_findLeft 7 none wsX8_findLeft RX8) (hR : 2 ≤ R.frames ∧ 47 ≤ R.locals) (hK : va_K D vwCl (tyw cI cJ cZ) s) (hD : ∀ σ, va_D (aM ad) (wM ad cI cJ cZ σ)) (k147 : Int32 → Int32 → SS → Option (SS)) (hk147 : ∀ (v2 : Int32) (v3 : Int32) (σ : SS), k147 v2 v3 σ = some res → ∀ (H : Heap) (locs : List Loc) (ls : Array Slot), va_P D vwCl (wM ad cI cJ cZ σ) H → va_S (aM ad) s.heap H locs → lv_has ls 7 [(0, .ref (ad 0)), (2, .int v2), (3, .int v3)] → W p l e R s m args below meth c H locs 0 0 (MQ below (va_Qv (fun (u : SS) => u = res) (fun u t => va_P D vwCl (wM ad cI cJ cZ u) t.heap) (aM ad)) args s 0 0 (aM ad)) (F0 m 147 ls [])) (k166 : Int32 → Int32 → Int32 → Int32 → SS → Option (SS)) (hk166 : ∀ (v2 : Int32) (v3 : Int32) (v4 : Int32) (v5 : Int32) (σ : SS), k166 v2 v3 v4 v5 σ = some res → ∀ (H : Heap) (locs : List Loc) (ls : Array Slot), va_P D vwCl (wM ad cI cJ cZ σ) H → va_S (aM ad) s.heap H locs → lv_has ls 7 [(0, .ref (ad 0)), (2, .int v2), (3, .int v3), (4, .int v4), (5, .int v5)] → W p l e R s m args below meth c H locs 0 0 (MQ below (va_Qv (fun (u : SS) => u = res) (fun u t => va_P D vwCl (wM ad cI cJ cZ u) t.heap) (aM ad)) args s 0 0 (aM ad)) (F0 m 166 ls [])) (v2 : Int32) (v3 : Int32) (v5 : Int32) (σ : SS) (hf : p_X8_findLeft_231 k147 k166 v2 v3 v5 σ = some res) (H : Heap) (locs : List Loc) (ls : Array Slot) (hP : va_P D vwCl (wM ad cI cJ cZ σ) H) (hS : va_S (aM ad) s.heap H locs) (hl : lv_has ls 7 [(0, .ref (ad 0)), (2, .int v2), (3, .int v3), (5, .int v5)]) : W p l e R s m args below meth c H locs 0 0 (MQ below (va_Qv (fun (u : SS) => u = res) (fun u t => va_P D vwCl (wM ad cI cJ cZ u) t.heap) (aM ad)) args s 0 0 (aM ad)) (F0 m 231 ls []) := by
  obtain ⟨hx, hb, hr, hml, hown, hts, hlk⟩ := id hm
  unfold p_X8_findLeft_231 at hf
  refine lv_iconst (v := 0) hx hb dX8_findLeft_231 (by decide) ?_
  exact w_X8_findLeft_232 hm hR hK hD k147 hk147 k166 hk166 v2 v3 v5 0 σ hf _ _ _ hP hS (lv_sub hl [0, 1, 2, 3] rfl)
def p_X8_findLeft_288 (k147 : Int32 → Int32 → SS → Option (SS)) (v2 : Int32) (v3 : Int32) (v4 : Int32) (σ : SS) : Option (SS) := oi v3 48 (ob v4 (os (sI σ 22 (v3.toNatClampNeg) v4) (fun s_295 => k147 v2 (v3 + 1) s_295)))
set_option maxHeartbeats 4000000 in
set_option maxRecDepth 100000 in
theorem w_X8_findLeft_288 {p : Program} {l : Launch} {e : Env} {R : Room} {s : State} {m : MethodId} {args : Array Value} {below : List Frame} {meth : Method} {c : Code} {D : va_G} {ad : Nat → Nat} {cI cJ cZ : ClassId} {res : SS} (hm : mx p s m args meth c cX8_findLeft 7 none wsX8_findLeft RX8) (hR : 2 ≤ R.frames ∧ 47 ≤ R.locals) (hK : va_K D vwCl (tyw cI cJ cZ) s) (hD : ∀ σ, va_D (aM ad) (wM ad cI cJ cZ σ)) (k147 : Int32 → Int32 → SS → Option (SS)) (hk147 : ∀ (v2 : Int32) (v3 : Int32) (σ : SS), k147 v2 v3 σ = some res → ∀ (H : Heap) (locs : List Loc) (ls : Array Slot), va_P D vwCl (wM ad cI cJ cZ σ) H → va_S (aM ad) s.heap H locs → lv_has ls 7 [(0, .ref (ad 0)), (2, .int v2), (3, .int v3)] → W p l e R s m args below meth c H locs 0 0 (MQ below (va_Qv (fun (u : SS) => u = res) (fun u t => va_P D vwCl (wM ad cI cJ cZ u) t.heap) (aM ad)) args s 0 0 (aM ad)) (F0 m 147 ls [])) (v2 : Int32) (v3 : Int32) (v4 : Int32) (σ : SS) (hf : p_X8_findLeft_288 k147 v2 v3 v4 σ = some res) (H : Heap) (locs : List Loc) (ls : Array Slot) (hP : va_P D vwCl (wM ad cI cJ cZ σ) H) (hS : va_S (aM ad) s.heap H locs) (hl : lv_has ls 7 [(0, .ref (ad 0)), (2, .int v2), (3, .int v3), (4, .int v4)]) : W p l e R s m args below meth c H locs 0 0 (MQ below (va_Qv (fun (u : SS) => u = res) (fun u t => va_P D vwCl (wM ad cI cJ cZ u) t.heap) (aM ad)) args s 0 0 (aM ad)) (F0 m 288 ls []) := by
  obtain ⟨hx, hb, hr, hml, hown, hts, hlk⟩ := id hm
  unfold p_X8_findLeft_288 at hf
  refine lv_aload_n hx hb dX8_findLeft_288 rfl (lv_at hl 0 rfl) ?_
  refine va_get (D := D) (ci := 7) (v := .ref (ad 22)) (C := RX8) (T := TX8) (N := 50) hx hb hts in_X8_findLeft_X8 hown hK hP 0 (wM_0 _ _ _ _ _) rfl 27 (by decide) (hts (.fieldLink RX8 74 "CallGraphsModel" "left" "[Z") (List.mem_of_getElem? (i := 7) rfl)) (fun _ h9 => h9) (fM_0_27 _ _) dX8_findLeft_289 ?_
  refine lv_iload_n hx hb dX8_findLeft_292 rfl (lv_at hl 2 rfl) ?_
  refine lv_iload hx hb dX8_findLeft_293 (lv_at hl 3 rfl) ?_
  obtain ⟨h_295, hf⟩ := oi_e hf
  obtain ⟨hb_295, hf⟩ := ob_e hf
  refine va_zast hx hb hK hP (hD _) hS 22 2 (wM_22 _ _ _ _ _) rfl h_295 dX8_findLeft_295 (fun H locs hP _ hS => ?_)
  rw [nb_a hb_295] at hP
  have hP := wM_s22 hP
  obtain ⟨s_295, es_295, hf⟩ := os_e hf
  rw [← es_295] at hP
  refine lv_iinc (v := (v3 + 1)) (lv' := [(3, .int (v3 + 1)), (0, .ref (ad 0)), (2, .int v2), (4, .int v4)]) hx hb dX8_findLeft_296 hl (k := 2) rfl rfl (by decide) rfl (fun ls hl => ?_)
  refine lv_goto (tgt := 147) hx hb dX8_findLeft_299 (by decide) ?_
  exact hk147 v2 (v3 + 1) s_295 hf _ _ _ hP hS (lv_sub hl [1, 2, 0] rfl)
def p_X8_findLeft_166 (k147 : Int32 → Int32 → SS → Option (SS)) : Nat → Int32 → Int32 → Int32 → Int32 → SS → Option (SS)
  | 0, _, _, _, _, _ => none
  | n + 1, v2, v3, v4, v5, σ => let k166 := p_X8_findLeft_166 k147 n; if (σ.1 0 5) ≤ v5 then p_X8_findLeft_288 k147 v2 v3 v4 σ else if v4 = 0 then p_X8_findLeft_288 k147 v2 v3 v4 σ else oi v5 48 (if (σ.1 6 v5.toNatClampNeg) = v2 then oi v5 48 (oi (σ.1 5 v5.toNatClampNeg) 16 (if (σ.1 23 (σ.1 5 v5.toNatClampNeg).toNatClampNeg) = 0 then p_X8_findLeft_231 k147 k166 v2 v3 v5 σ else oi v5 48 (if (σ.1 7 v5.toNatClampNeg) = 0 then p_X8_findLeft_227 k147 k166 v2 v3 v5 σ else oi v5 48 (if (σ.1 7 v5.toNatClampNeg) = 1 then p_X8_findLeft_227 k147 k166 v2 v3 v5 σ else p_X8_findLeft_231 k147 k166 v2 v3 v5 σ)))) else p_X8_findLeft_231 k147 k166 v2 v3 v5 σ)
set_option maxHeartbeats 4000000 in
set_option maxRecDepth 100000 in
theorem w_X8_findLeft_166 {p : Program} {l : Launch} {e : Env} {R : Room} {s : State} {m : MethodId} {args : Array Value} {below : List Frame} {meth : Method} {c : Code} {D : va_G} {ad : Nat → Nat} {cI cJ cZ : ClassId} {res : SS} (hm : mx p s m args meth c cX8_findLeft 7 none wsX8_findLeft RX8) (hR : 2 ≤ R.frames ∧ 47 ≤ R.locals) (hK : va_K D vwCl (tyw cI cJ cZ) s) (hD : ∀ σ, va_D (aM ad) (wM ad cI cJ cZ σ)) (k147 : Int32 → Int32 → SS → Option (SS)) (hk147 : ∀ (v2 : Int32) (v3 : Int32) (σ : SS), k147 v2 v3 σ = some res → ∀ (H : Heap) (locs : List Loc) (ls : Array Slot), va_P D vwCl (wM ad cI cJ cZ σ) H → va_S (aM ad) s.heap H locs → lv_has ls 7 [(0, .ref (ad 0)), (2, .int v2), (3, .int v3)] → W p l e R s m args below meth c H locs 0 0 (MQ below (va_Qv (fun (u : SS) => u = res) (fun u t => va_P D vwCl (wM ad cI cJ cZ u) t.heap) (aM ad)) args s 0 0 (aM ad)) (F0 m 147 ls [])) : ∀ (n : Nat) (v2 : Int32) (v3 : Int32) (v4 : Int32) (v5 : Int32) (σ : SS), p_X8_findLeft_166 k147 n v2 v3 v4 v5 σ = some res → ∀ (H : Heap) (locs : List Loc) (ls : Array Slot), va_P D vwCl (wM ad cI cJ cZ σ) H → va_S (aM ad) s.heap H locs → lv_has ls 7 [(0, .ref (ad 0)), (2, .int v2), (3, .int v3), (4, .int v4), (5, .int v5)] → W p l e R s m args below meth c H locs 0 0 (MQ below (va_Qv (fun (u : SS) => u = res) (fun u t => va_P D vwCl (wM ad cI cJ cZ u) t.heap) (aM ad)) args s 0 0 (aM ad)) (F0 m 166 ls []) := by
  obtain ⟨hx, hb, hr, hml, hown, hts, hlk⟩ := id hm
  intro n
  induction n with
  | zero =>
    intro _ _ _ _ _ hf
    cases hf
  | succ n hk166 =>
    intro v2 v3 v4 v5 σ hf H locs ls hP hS hl
    rw [p_X8_findLeft_166] at hf
    try dsimp only at hf
    refine lv_iload hx hb dX8_findLeft_166 (lv_at hl 4 rfl) ?_
    refine lv_aload_n hx hb dX8_findLeft_168 rfl (lv_at hl 0 rfl) ?_
    refine va_get (D := D) (ci := 7) (v := .int (σ.1 0 5)) (C := RX8) (T := TX8) (N := 50) hx hb hts in_X8_findLeft_X8 hown hK hP 0 (wM_0 _ _ _ _ _) rfl 5 (by decide) (hts (.fieldLink RX8 131 "CallGraphsModel" "members" "I") (List.mem_of_getElem? (i := 4) rfl)) (fun _ h9 => h9) (fM_0_5 _ _) dX8_findLeft_169 ?_
    refine lv_icmp_ge (tgt := 288) hx hb dX8_findLeft_172 (by decide) (fun c_172 => ?_) (fun c_172 => ?_)
    · rw [if_pos c_172] at hf
      exact w_X8_findLeft_288 hm hR hK hD k147 hk147 v2 v3 v4 σ hf _ _ _ hP hS (lv_sub hl [0, 1, 2, 3] rfl)
    · rw [if_neg c_172] at hf
      refine lv_iload hx hb dX8_findLeft_175 (lv_at hl 3 rfl) ?_
      refine lv_if_eq (tgt := 288) hx hb dX8_findLeft_177 (by decide) (fun c_177 => ?_) (fun c_177 => ?_)
      · rw [if_pos c_177] at hf
        exact w_X8_findLeft_288 hm hR hK hD k147 hk147 v2 v3 v4 σ hf _ _ _ hP hS (lv_sub hl [0, 1, 2, 3] rfl)
      · rw [if_neg c_177] at hf
        refine lv_aload_n hx hb dX8_findLeft_180 rfl (lv_at hl 0 rfl) ?_
        refine va_get (D := D) (ci := 7) (v := .ref (ad 6)) (C := RX8) (T := TX8) (N := 50) hx hb hts in_X8_findLeft_X8 hown hK hP 0 (wM_0 _ _ _ _ _) rfl 7 (by decide) (hts (.fieldLink RX8 25 "CallGraphsModel" "nameOf" "[I") (List.mem_of_getElem? (i := 5) rfl)) (fun _ h9 => h9) (fM_0_7 _ _) dX8_findLeft_181 ?_
        refine lv_iload hx hb dX8_findLeft_184 (lv_at hl 4 rfl) ?_
        obtain ⟨h_186, hf⟩ := oi_e hf
        refine va_iald hx hb hK hP 6 0 (wM_6 _ _ _ _ _) rfl h_186 dX8_findLeft_186 ?_
        refine lv_iload_n hx hb dX8_findLeft_187 rfl (lv_at hl 1 rfl) ?_
        refine lv_icmp_ne (tgt := 231) hx hb dX8_findLeft_188 (by decide) (fun c_188 => ?_) (fun c_188 => ?_)
        · rw [if_neg c_188] at hf
          exact w_X8_findLeft_231 hm hR hK hD k147 hk147 (p_X8_findLeft_166 k147 n) hk166 v2 v3 v5 σ hf _ _ _ hP hS (lv_sub hl [0, 1, 2, 4] rfl)
        · rw [if_pos c_188] at hf
          refine lv_aload_n hx hb dX8_findLeft_191 rfl (lv_at hl 0 rfl) ?_
          refine va_get (D := D) (ci := 7) (v := .ref (ad 23)) (C := RX8) (T := TX8) (N := 50) hx hb hts in_X8_findLeft_X8 hown hK hP 0 (wM_0 _ _ _ _ _) rfl 28 (by decide) (hts (.fieldLink RX8 77 "CallGraphsModel" "aboveThen" "[Z") (List.mem_of_getElem? (i := 1) rfl)) (fun _ h9 => h9) (fM_0_28 _ _) dX8_findLeft_192 ?_
          refine lv_aload_n hx hb dX8_findLeft_195 rfl (lv_at hl 0 rfl) ?_
          refine va_get (D := D) (ci := 7) (v := .ref (ad 5)) (C := RX8) (T := TX8) (N := 50) hx hb hts in_X8_findLeft_X8 hown hK hP 0 (wM_0 _ _ _ _ _) rfl 6 (by decide) (hts (.fieldLink RX8 22 "CallGraphsModel" "typeOf" "[I") (List.mem_of_getElem? (i := 6) rfl)) (fun _ h9 => h9) (fM_0_6 _ _) dX8_findLeft_196 ?_
          refine lv_iload hx hb dX8_findLeft_199 (lv_at hl 4 rfl) ?_
          obtain ⟨h_201, hf⟩ := oi_e hf
          refine va_iald hx hb hK hP 5 0 (wM_5 _ _ _ _ _) rfl h_201 dX8_findLeft_201 ?_
          obtain ⟨h_202, hf⟩ := oi_e hf
          refine va_zald hx hb hK hP 23 2 (wM_23 _ _ _ _ _) rfl h_202 dX8_findLeft_202 ?_
          refine lv_if_eq (tgt := 231) hx hb dX8_findLeft_203 (by decide) (fun c_203 => ?_) (fun c_203 => ?_)
          · rw [if_pos c_203] at hf
            exact w_X8_findLeft_231 hm hR hK hD k147 hk147 (p_X8_findLeft_166 k147 n) hk166 v2 v3 v5 σ hf _ _ _ hP hS (lv_sub hl [0, 1, 2, 4] rfl)
          · rw [if_neg c_203] at hf
            refine lv_aload_n hx hb dX8_findLeft_206 rfl (lv_at hl 0 rfl) ?_
            refine va_get (D := D) (ci := 7) (v := .ref (ad 7)) (C := RX8) (T := TX8) (N := 50) hx hb hts in_X8_findLeft_X8 hown hK hP 0 (wM_0 _ _ _ _ _) rfl 8 (by decide) (hts (.fieldLink RX8 28 "CallGraphsModel" "sortOf" "[I") (List.mem_of_getElem? (i := 8) rfl)) (fun _ h9 => h9) (fM_0_8 _ _) dX8_findLeft_207 ?_
            refine lv_iload hx hb dX8_findLeft_210 (lv_at hl 4 rfl) ?_
            obtain ⟨h_212, hf⟩ := oi_e hf
            refine va_iald hx hb hK hP 7 0 (wM_7 _ _ _ _ _) rfl h_212 dX8_findLeft_212 ?_
            refine lv_if_eq (tgt := 227) hx hb dX8_findLeft_213 (by decide) (fun c_213 => ?_) (fun c_213 => ?_)
            · rw [if_pos c_213] at hf
              exact w_X8_findLeft_227 hm hR hK hD k147 hk147 (p_X8_findLeft_166 k147 n) hk166 v2 v3 v5 σ hf _ _ _ hP hS (lv_sub hl [0, 1, 2, 4] rfl)
            · rw [if_neg c_213] at hf
              refine lv_aload_n hx hb dX8_findLeft_216 rfl (lv_at hl 0 rfl) ?_
              refine va_get (D := D) (ci := 7) (v := .ref (ad 7)) (C := RX8) (T := TX8) (N := 50) hx hb hts in_X8_findLeft_X8 hown hK hP 0 (wM_0 _ _ _ _ _) rfl 8 (by decide) (hts (.fieldLink RX8 28 "CallGraphsModel" "sortOf" "[I") (List.mem_of_getElem? (i := 8) rfl)) (fun _ h9 => h9) (fM_0_8 _ _) dX8_findLeft_217 ?_
              refine lv_iload hx hb dX8_findLeft_220 (lv_at hl 4 rfl) ?_
              obtain ⟨h_222, hf⟩ := oi_e hf
              refine va_iald hx hb hK hP 7 0 (wM_7 _ _ _ _ _) rfl h_222 dX8_findLeft_222 ?_
              refine lv_iconst (v := 1) hx hb dX8_findLeft_223 (by decide) ?_
              refine lv_icmp_ne (tgt := 231) hx hb dX8_findLeft_224 (by decide) (fun c_224 => ?_) (fun c_224 => ?_)
              · rw [if_neg c_224] at hf
                exact w_X8_findLeft_231 hm hR hK hD k147 hk147 (p_X8_findLeft_166 k147 n) hk166 v2 v3 v5 σ hf _ _ _ hP hS (lv_sub hl [0, 1, 2, 4] rfl)
              · rw [if_pos c_224] at hf
                exact w_X8_findLeft_227 hm hR hK hD k147 hk147 (p_X8_findLeft_166 k147 n) hk166 v2 v3 v5 σ hf _ _ _ hP hS (lv_sub hl [0, 1, 2, 4] rfl)
def p_X8_findLeft_147 : Nat → Int32 → Int32 → SS → Option (SS)
  | 0, _, _, _ => none
  | n + 1, v2, v3, σ => let k147 := p_X8_findLeft_147 n; if (σ.1 0 5) ≤ v3 then some σ else oi v3 48 (p_X8_findLeft_166 k147 100000 v2 v3 (σ.1 22 v3.toNatClampNeg) 0 σ)
set_option maxHeartbeats 4000000 in
set_option maxRecDepth 100000 in
theorem w_X8_findLeft_147 {p : Program} {l : Launch} {e : Env} {R : Room} {s : State} {m : MethodId} {args : Array Value} {below : List Frame} {meth : Method} {c : Code} {D : va_G} {ad : Nat → Nat} {cI cJ cZ : ClassId} {res : SS} (hm : mx p s m args meth c cX8_findLeft 7 none wsX8_findLeft RX8) (hR : 2 ≤ R.frames ∧ 47 ≤ R.locals) (hK : va_K D vwCl (tyw cI cJ cZ) s) (hD : ∀ σ, va_D (aM ad) (wM ad cI cJ cZ σ)) : ∀ (n : Nat) (v2 : Int32) (v3 : Int32) (σ : SS), p_X8_findLeft_147 n v2 v3 σ = some res → ∀ (H : Heap) (locs : List Loc) (ls : Array Slot), va_P D vwCl (wM ad cI cJ cZ σ) H → va_S (aM ad) s.heap H locs → lv_has ls 7 [(0, .ref (ad 0)), (2, .int v2), (3, .int v3)] → W p l e R s m args below meth c H locs 0 0 (MQ below (va_Qv (fun (u : SS) => u = res) (fun u t => va_P D vwCl (wM ad cI cJ cZ u) t.heap) (aM ad)) args s 0 0 (aM ad)) (F0 m 147 ls []) := by
  obtain ⟨hx, hb, hr, hml, hown, hts, hlk⟩ := id hm
  intro n
  induction n with
  | zero =>
    intro _ _ _ hf
    cases hf
  | succ n hk147 =>
    intro v2 v3 σ hf H locs ls hP hS hl
    rw [p_X8_findLeft_147] at hf
    try dsimp only at hf
    refine lv_iload_n hx hb dX8_findLeft_147 rfl (lv_at hl 2 rfl) ?_
    refine lv_aload_n hx hb dX8_findLeft_148 rfl (lv_at hl 0 rfl) ?_
    refine va_get (D := D) (ci := 7) (v := .int (σ.1 0 5)) (C := RX8) (T := TX8) (N := 50) hx hb hts in_X8_findLeft_X8 hown hK hP 0 (wM_0 _ _ _ _ _) rfl 5 (by decide) (hts (.fieldLink RX8 131 "CallGraphsModel" "members" "I") (List.mem_of_getElem? (i := 4) rfl)) (fun _ h9 => h9) (fM_0_5 _ _) dX8_findLeft_149 ?_
    refine lv_icmp_ge (tgt := 302) hx hb dX8_findLeft_152 (by decide) (fun c_152 => ?_) (fun c_152 => ?_)
    · rw [if_pos c_152] at hf
      exact rt_v (wd := wM ad cI cJ cZ) hx hb hr hlk (Option.some.inj hf) hP hS dX8_findLeft_302
    · rw [if_neg c_152] at hf
      refine lv_aload_n hx hb dX8_findLeft_155 rfl (lv_at hl 0 rfl) ?_
      refine va_get (D := D) (ci := 7) (v := .ref (ad 22)) (C := RX8) (T := TX8) (N := 50) hx hb hts in_X8_findLeft_X8 hown hK hP 0 (wM_0 _ _ _ _ _) rfl 27 (by decide) (hts (.fieldLink RX8 74 "CallGraphsModel" "left" "[Z") (List.mem_of_getElem? (i := 7) rfl)) (fun _ h9 => h9) (fM_0_27 _ _) dX8_findLeft_156 ?_
      refine lv_iload_n hx hb dX8_findLeft_159 rfl (lv_at hl 2 rfl) ?_
      obtain ⟨h_160, hf⟩ := oi_e hf
      refine va_zald hx hb hK hP 22 2 (wM_22 _ _ _ _ _) rfl h_160 dX8_findLeft_160 ?_
      refine lv_istore (lv' := [(4, .int (σ.1 22 v3.toNatClampNeg)), (0, .ref (ad 0)), (2, .int v2), (3, .int v3)]) hx hb dX8_findLeft_161 hl (by decide) rfl (fun ls hl => ?_)
      refine lv_iconst (v := 0) hx hb dX8_findLeft_163 (by decide) ?_
      refine lv_istore (lv' := [(5, .int 0), (4, .int (σ.1 22 v3.toNatClampNeg)), (0, .ref (ad 0)), (2, .int v2), (3, .int v3)]) hx hb dX8_findLeft_164 hl (by decide) rfl (fun ls hl => ?_)
      exact w_X8_findLeft_166 hm hR hK hD (p_X8_findLeft_147 n) hk147 100000 v2 v3 (σ.1 22 v3.toNatClampNeg) 0 σ hf _ _ _ hP hS (lv_sub hl [2, 3, 4, 1, 0] rfl)
def p_X8_findLeft_59 : Nat → Int32 → Int32 → SS → Option (SS)
  | 0, _, _, _ => none
  | n + 1, v2, v3, σ => let k59 := p_X8_findLeft_59 n; if 48 ≤ v3 then p_X8_findLeft_147 100000 v2 0 σ else if (σ.1 0 5) ≤ v3 then p_X8_findLeft_101 k59 v2 v3 σ else oi v3 48 (if (σ.1 6 v3.toNatClampNeg) = v2 then oi v3 48 (oi (σ.1 5 v3.toNatClampNeg) 16 (if (σ.1 23 (σ.1 5 v3.toNatClampNeg).toNatClampNeg) = 0 then p_X8_findLeft_101 k59 v2 v3 σ else p_X8_findLeft_102 k59 v2 v3 1 σ)) else p_X8_findLeft_101 k59 v2 v3 σ)
set_option maxHeartbeats 4000000 in
set_option maxRecDepth 100000 in
theorem w_X8_findLeft_59 {p : Program} {l : Launch} {e : Env} {R : Room} {s : State} {m : MethodId} {args : Array Value} {below : List Frame} {meth : Method} {c : Code} {D : va_G} {ad : Nat → Nat} {cI cJ cZ : ClassId} {res : SS} (hm : mx p s m args meth c cX8_findLeft 7 none wsX8_findLeft RX8) (hR : 2 ≤ R.frames ∧ 47 ≤ R.locals) (hK : va_K D vwCl (tyw cI cJ cZ) s) (hD : ∀ σ, va_D (aM ad) (wM ad cI cJ cZ σ)) : ∀ (n : Nat) (v2 : Int32) (v3 : Int32) (σ : SS), p_X8_findLeft_59 n v2 v3 σ = some res → ∀ (H : Heap) (locs : List Loc) (ls : Array Slot), va_P D vwCl (wM ad cI cJ cZ σ) H → va_S (aM ad) s.heap H locs → lv_has ls 7 [(0, .ref (ad 0)), (2, .int v2), (3, .int v3)] → W p l e R s m args below meth c H locs 0 0 (MQ below (va_Qv (fun (u : SS) => u = res) (fun u t => va_P D vwCl (wM ad cI cJ cZ u) t.heap) (aM ad)) args s 0 0 (aM ad)) (F0 m 59 ls []) := by
  obtain ⟨hx, hb, hr, hml, hown, hts, hlk⟩ := id hm
  intro n
  induction n with
  | zero =>
    intro _ _ _ hf
    cases hf
  | succ n hk59 =>
    intro v2 v3 σ hf H locs ls hP hS hl
    rw [p_X8_findLeft_59] at hf
    try dsimp only at hf
    refine lv_iload_n hx hb dX8_findLeft_59 rfl (lv_at hl 2 rfl) ?_
    refine lv_bipush (v := 48) hx hb dX8_findLeft_60 (by decide) ?_
    refine lv_icmp_ge (tgt := 145) hx hb dX8_findLeft_62 (by decide) (fun c_62 => ?_) (fun c_62 => ?_)
    · rw [if_pos c_62] at hf
      refine lv_iconst (v := 0) hx hb dX8_findLeft_145 (by decide) ?_
      refine lv_istore_n (lv' := [(3, .int 0), (0, .ref (ad 0)), (2, .int v2)]) hx hb dX8_findLeft_146 rfl hl (by decide) rfl (fun ls hl => ?_)
      exact w_X8_findLeft_147 hm hR hK hD 100000 v2 0 σ hf _ _ _ hP hS (lv_sub hl [1, 2, 0] rfl)
    · rw [if_neg c_62] at hf
      refine lv_iload_n hx hb dX8_findLeft_65 rfl (lv_at hl 2 rfl) ?_
      refine lv_aload_n hx hb dX8_findLeft_66 rfl (lv_at hl 0 rfl) ?_
      refine va_get (D := D) (ci := 7) (v := .int (σ.1 0 5)) (C := RX8) (T := TX8) (N := 50) hx hb hts in_X8_findLeft_X8 hown hK hP 0 (wM_0 _ _ _ _ _) rfl 5 (by decide) (hts (.fieldLink RX8 131 "CallGraphsModel" "members" "I") (List.mem_of_getElem? (i := 4) rfl)) (fun _ h9 => h9) (fM_0_5 _ _) dX8_findLeft_67 ?_
      refine lv_icmp_ge (tgt := 101) hx hb dX8_findLeft_70 (by decide) (fun c_70 => ?_) (fun c_70 => ?_)
      · rw [if_pos c_70] at hf
        exact w_X8_findLeft_101 hm hR hK hD (p_X8_findLeft_59 n) hk59 v2 v3 σ hf _ _ _ hP hS (lv_sub hl [0, 1, 2] rfl)
      · rw [if_neg c_70] at hf
        refine lv_aload_n hx hb dX8_findLeft_73 rfl (lv_at hl 0 rfl) ?_
        refine va_get (D := D) (ci := 7) (v := .ref (ad 6)) (C := RX8) (T := TX8) (N := 50) hx hb hts in_X8_findLeft_X8 hown hK hP 0 (wM_0 _ _ _ _ _) rfl 7 (by decide) (hts (.fieldLink RX8 25 "CallGraphsModel" "nameOf" "[I") (List.mem_of_getElem? (i := 5) rfl)) (fun _ h9 => h9) (fM_0_7 _ _) dX8_findLeft_74 ?_
        refine lv_iload_n hx hb dX8_findLeft_77 rfl (lv_at hl 2 rfl) ?_
        obtain ⟨h_78, hf⟩ := oi_e hf
        refine va_iald hx hb hK hP 6 0 (wM_6 _ _ _ _ _) rfl h_78 dX8_findLeft_78 ?_
        refine lv_iload_n hx hb dX8_findLeft_79 rfl (lv_at hl 1 rfl) ?_
        refine lv_icmp_ne (tgt := 101) hx hb dX8_findLeft_80 (by decide) (fun c_80 => ?_) (fun c_80 => ?_)
        · rw [if_neg c_80] at hf
          exact w_X8_findLeft_101 hm hR hK hD (p_X8_findLeft_59 n) hk59 v2 v3 σ hf _ _ _ hP hS (lv_sub hl [0, 1, 2] rfl)
        · rw [if_pos c_80] at hf
          refine lv_aload_n hx hb dX8_findLeft_83 rfl (lv_at hl 0 rfl) ?_
          refine va_get (D := D) (ci := 7) (v := .ref (ad 23)) (C := RX8) (T := TX8) (N := 50) hx hb hts in_X8_findLeft_X8 hown hK hP 0 (wM_0 _ _ _ _ _) rfl 28 (by decide) (hts (.fieldLink RX8 77 "CallGraphsModel" "aboveThen" "[Z") (List.mem_of_getElem? (i := 1) rfl)) (fun _ h9 => h9) (fM_0_28 _ _) dX8_findLeft_84 ?_
          refine lv_aload_n hx hb dX8_findLeft_87 rfl (lv_at hl 0 rfl) ?_
          refine va_get (D := D) (ci := 7) (v := .ref (ad 5)) (C := RX8) (T := TX8) (N := 50) hx hb hts in_X8_findLeft_X8 hown hK hP 0 (wM_0 _ _ _ _ _) rfl 6 (by decide) (hts (.fieldLink RX8 22 "CallGraphsModel" "typeOf" "[I") (List.mem_of_getElem? (i := 6) rfl)) (fun _ h9 => h9) (fM_0_6 _ _) dX8_findLeft_88 ?_
          refine lv_iload_n hx hb dX8_findLeft_91 rfl (lv_at hl 2 rfl) ?_
          obtain ⟨h_92, hf⟩ := oi_e hf
          refine va_iald hx hb hK hP 5 0 (wM_5 _ _ _ _ _) rfl h_92 dX8_findLeft_92 ?_
          obtain ⟨h_93, hf⟩ := oi_e hf
          refine va_zald hx hb hK hP 23 2 (wM_23 _ _ _ _ _) rfl h_93 dX8_findLeft_93 ?_
          refine lv_if_eq (tgt := 101) hx hb dX8_findLeft_94 (by decide) (fun c_94 => ?_) (fun c_94 => ?_)
          · rw [if_pos c_94] at hf
            exact w_X8_findLeft_101 hm hR hK hD (p_X8_findLeft_59 n) hk59 v2 v3 σ hf _ _ _ hP hS (lv_sub hl [0, 1, 2] rfl)
          · rw [if_neg c_94] at hf
            refine lv_iconst (v := 1) hx hb dX8_findLeft_97 (by decide) ?_
            refine lv_goto (tgt := 102) hx hb dX8_findLeft_98 (by decide) ?_
            exact w_X8_findLeft_102 hm hR hK hD (p_X8_findLeft_59 n) hk59 v2 v3 1 σ hf _ _ _ hP hS (lv_sub hl [0, 1, 2] rfl)
def p_X8_findLeft_2 : Nat → Int32 → Int32 → Int32 → SS → Option (SS)
  | 0, _, _, _, _ => none
  | n + 1, v1, v2, v3, σ => let k2 := p_X8_findLeft_2 n; if 16 ≤ v3 then p_X8_findLeft_59 100000 v2 0 σ else if (σ.1 0 0) ≤ v3 then p_X8_findLeft_49 k2 v1 v2 v3 v3 σ else if v3 = v1 then p_X8_findLeft_49 k2 v1 v2 v3 v3 σ else oi v3 16 (if (σ.1 1 v3.toNatClampNeg) = 2 then oc (p_X8_isUnder_0 v1 v3 σ) (fun r_39 => if r_39.1 = 0 then p_X8_findLeft_49 k2 v1 v2 v3 v3 r_39.2 else p_X8_findLeft_50 k2 v1 v2 v3 1 v3 r_39.2) else p_X8_findLeft_49 k2 v1 v2 v3 v3 σ)
set_option maxHeartbeats 4000000 in
set_option maxRecDepth 100000 in
theorem w_X8_findLeft_2 {p : Program} {l : Launch} {e : Env} {R : Room} {s : State} {m : MethodId} {args : Array Value} {below : List Frame} {meth : Method} {c : Code} {D : va_G} {ad : Nat → Nat} {cI cJ cZ : ClassId} {res : SS} (hm : mx p s m args meth c cX8_findLeft 7 none wsX8_findLeft RX8) (hR : 2 ≤ R.frames ∧ 47 ≤ R.locals) (hK : va_K D vwCl (tyw cI cJ cZ) s) (hD : ∀ σ, va_D (aM ad) (wM ad cI cJ cZ σ)) : ∀ (n : Nat) (v1 : Int32) (v2 : Int32) (v3 : Int32) (σ : SS), p_X8_findLeft_2 n v1 v2 v3 σ = some res → ∀ (H : Heap) (locs : List Loc) (ls : Array Slot), va_P D vwCl (wM ad cI cJ cZ σ) H → va_S (aM ad) s.heap H locs → lv_has ls 7 [(0, .ref (ad 0)), (1, .int v1), (2, .int v2), (3, .int v3)] → W p l e R s m args below meth c H locs 0 0 (MQ below (va_Qv (fun (u : SS) => u = res) (fun u t => va_P D vwCl (wM ad cI cJ cZ u) t.heap) (aM ad)) args s 0 0 (aM ad)) (F0 m 2 ls []) := by
  obtain ⟨hx, hb, hr, hml, hown, hts, hlk⟩ := id hm
  intro n
  induction n with
  | zero =>
    intro _ _ _ _ hf
    cases hf
  | succ n hk2 =>
    intro v1 v2 v3 σ hf H locs ls hP hS hl
    rw [p_X8_findLeft_2] at hf
    try dsimp only at hf
    refine lv_iload_n hx hb dX8_findLeft_2 rfl (lv_at hl 3 rfl) ?_
    refine lv_bipush (v := 16) hx hb dX8_findLeft_3 (by decide) ?_
    refine lv_icmp_ge (tgt := 57) hx hb dX8_findLeft_5 (by decide) (fun c_5 => ?_) (fun c_5 => ?_)
    · rw [if_pos c_5] at hf
      refine lv_iconst (v := 0) hx hb dX8_findLeft_57 (by decide) ?_
      refine lv_istore_n (lv' := [(3, .int 0), (0, .ref (ad 0)), (1, .int v1), (2, .int v2)]) hx hb dX8_findLeft_58 rfl hl (by decide) rfl (fun ls hl => ?_)
      exact w_X8_findLeft_59 hm hR hK hD 100000 v2 0 σ hf _ _ _ hP hS (lv_sub hl [1, 3, 0] rfl)
    · rw [if_neg c_5] at hf
      refine lv_aload_n hx hb dX8_findLeft_8 rfl (lv_at hl 0 rfl) ?_
      refine va_get (D := D) (ci := 7) (v := .ref (ad 23)) (C := RX8) (T := TX8) (N := 50) hx hb hts in_X8_findLeft_X8 hown hK hP 0 (wM_0 _ _ _ _ _) rfl 28 (by decide) (hts (.fieldLink RX8 77 "CallGraphsModel" "aboveThen" "[Z") (List.mem_of_getElem? (i := 1) rfl)) (fun _ h9 => h9) (fM_0_28 _ _) dX8_findLeft_9 ?_
      refine lv_iload_n hx hb dX8_findLeft_12 rfl (lv_at hl 3 rfl) ?_
      refine lv_iload_n hx hb dX8_findLeft_13 rfl (lv_at hl 3 rfl) ?_
      refine lv_aload_n hx hb dX8_findLeft_14 rfl (lv_at hl 0 rfl) ?_
      refine va_get (D := D) (ci := 7) (v := .int (σ.1 0 0)) (C := RX8) (T := TX8) (N := 50) hx hb hts in_X8_findLeft_X8 hown hK hP 0 (wM_0 _ _ _ _ _) rfl 0 (by decide) (hts (.fieldLink RX8 123 "CallGraphsModel" "types" "I") (List.mem_of_getElem? (i := 2) rfl)) (fun _ h9 => h9) (fM_0_0 _ _) dX8_findLeft_15 ?_
      refine lv_icmp_ge (tgt := 49) hx hb dX8_findLeft_18 (by decide) (fun c_18 => ?_) (fun c_18 => ?_)
      · rw [if_pos c_18] at hf
        exact w_X8_findLeft_49 hm hR hK hD (p_X8_findLeft_2 n) hk2 v1 v2 v3 v3 σ hf _ _ _ hP hS (lv_sub hl [0, 1, 2, 3] rfl)
      · rw [if_neg c_18] at hf
        refine lv_iload_n hx hb dX8_findLeft_21 rfl (lv_at hl 3 rfl) ?_
        refine lv_iload_n hx hb dX8_findLeft_22 rfl (lv_at hl 1 rfl) ?_
        refine lv_icmp_eq (tgt := 49) hx hb dX8_findLeft_23 (by decide) (fun c_23 => ?_) (fun c_23 => ?_)
        · rw [if_pos c_23] at hf
          exact w_X8_findLeft_49 hm hR hK hD (p_X8_findLeft_2 n) hk2 v1 v2 v3 v3 σ hf _ _ _ hP hS (lv_sub hl [0, 1, 2, 3] rfl)
        · rw [if_neg c_23] at hf
          refine lv_aload_n hx hb dX8_findLeft_26 rfl (lv_at hl 0 rfl) ?_
          refine va_get (D := D) (ci := 7) (v := .ref (ad 1)) (C := RX8) (T := TX8) (N := 50) hx hb hts in_X8_findLeft_X8 hown hK hP 0 (wM_0 _ _ _ _ _) rfl 1 (by decide) (hts (.fieldLink RX8 7 "CallGraphsModel" "kindOf" "[I") (List.mem_of_getElem? (i := 3) rfl)) (fun _ h9 => h9) (fM_0_1 _ _) dX8_findLeft_27 ?_
          refine lv_iload_n hx hb dX8_findLeft_30 rfl (lv_at hl 3 rfl) ?_
          obtain ⟨h_31, hf⟩ := oi_e hf
          refine va_iald hx hb hK hP 1 0 (wM_1 _ _ _ _ _) rfl h_31 dX8_findLeft_31 ?_
          refine lv_iconst (v := 2) hx hb dX8_findLeft_32 (by decide) ?_
          refine lv_icmp_ne (tgt := 49) hx hb dX8_findLeft_33 (by decide) (fun c_33 => ?_) (fun c_33 => ?_)
          · rw [if_neg c_33] at hf
            exact w_X8_findLeft_49 hm hR hK hD (p_X8_findLeft_2 n) hk2 v1 v2 v3 v3 σ hf _ _ _ hP hS (lv_sub hl [0, 1, 2, 3] rfl)
          · rw [if_pos c_33] at hf
            refine lv_aload_n hx hb dX8_findLeft_36 rfl (lv_at hl 0 rfl) ?_
            refine lv_iload_n hx hb dX8_findLeft_37 rfl (lv_at hl 1 rfl) ?_
            refine lv_iload_n hx hb dX8_findLeft_38 rfl (lv_at hl 3 rfl) ?_
            obtain ⟨r_39, hg_39, hf⟩ := oc_e hf
            refine mV_wi (wd := wM ad cI cJ cZ) (σ := σ) (As := [.int v1, .int v3]) (rest := [.int v3, .ref (ad 23)]) ⟨hx, hb, hml, hown, hts⟩ hK hP hD hS (c_X8_isUnder l D ad cI cJ cZ σ v1 v3 hg_39) (cwV 2 hts gX8_findLeft_X8_isUnder rfl rfl rfl hd_X8_isUnder ⟨Nat.le_trans (Nat.le_of_ble_eq_true rfl) hR.1, Nat.le_trans (Nat.le_of_ble_eq_true rfl) hR.2⟩) rfl (wM_0 _ _ _ _ _) rfl hl.1 rfl (Nat.le_of_ble_eq_true rfl) dX8_findLeft_39 (fun H locs hP hS => ?_)
            refine lv_if_eq (tgt := 49) hx hb dX8_findLeft_42 (by decide) (fun c_42 => ?_) (fun c_42 => ?_)
            · rw [if_pos c_42] at hf
              exact w_X8_findLeft_49 hm hR hK hD (p_X8_findLeft_2 n) hk2 v1 v2 v3 v3 r_39.2 hf _ _ _ hP hS (lv_sub hl [0, 1, 2, 3] rfl)
            · rw [if_neg c_42] at hf
              refine lv_iconst (v := 1) hx hb dX8_findLeft_45 (by decide) ?_
              refine lv_goto (tgt := 50) hx hb dX8_findLeft_46 (by decide) ?_
              exact w_X8_findLeft_50 hm hR hK hD (p_X8_findLeft_2 n) hk2 v1 v2 v3 1 v3 r_39.2 hf _ _ _ hP hS (lv_sub hl [0, 1, 2, 3] rfl)
def p_X8_findLeft_0 (v1 : Int32) (v2 : Int32) (σ : SS) : Option (SS) := p_X8_findLeft_2 100000 v1 v2 0 σ
set_option maxHeartbeats 4000000 in
set_option maxRecDepth 100000 in
theorem w_X8_findLeft_0 {p : Program} {l : Launch} {e : Env} {R : Room} {s : State} {m : MethodId} {args : Array Value} {below : List Frame} {meth : Method} {c : Code} {D : va_G} {ad : Nat → Nat} {cI cJ cZ : ClassId} {res : SS} (hm : mx p s m args meth c cX8_findLeft 7 none wsX8_findLeft RX8) (hR : 2 ≤ R.frames ∧ 47 ≤ R.locals) (hK : va_K D vwCl (tyw cI cJ cZ) s) (hD : ∀ σ, va_D (aM ad) (wM ad cI cJ cZ σ)) (v1 : Int32) (v2 : Int32) (σ : SS) (hf : p_X8_findLeft_0 v1 v2 σ = some res) (H : Heap) (locs : List Loc) (ls : Array Slot) (hP : va_P D vwCl (wM ad cI cJ cZ σ) H) (hS : va_S (aM ad) s.heap H locs) (hl : lv_has ls 7 [(0, .ref (ad 0)), (1, .int v1), (2, .int v2)]) : W p l e R s m args below meth c H locs 0 0 (MQ below (va_Qv (fun (u : SS) => u = res) (fun u t => va_P D vwCl (wM ad cI cJ cZ u) t.heap) (aM ad)) args s 0 0 (aM ad)) (F0 m 0 ls []) := by
  obtain ⟨hx, hb, hr, hml, hown, hts, hlk⟩ := id hm
  unfold p_X8_findLeft_0 at hf
  refine lv_iconst (v := 0) hx hb dX8_findLeft_0 (by decide) ?_
  refine lv_istore_n (lv' := [(3, .int 0), (0, .ref (ad 0)), (1, .int v1), (2, .int v2)]) hx hb dX8_findLeft_1 rfl hl (by decide) rfl (fun ls hl => ?_)
  exact w_X8_findLeft_2 hm hR hK hD 100000 v1 v2 0 σ hf _ _ _ hP hS (lv_sub hl [1, 2, 3, 0] rfl)
theorem hd_X8_findLeft : yX8_findLeft.cls = RX8 ∧ yX8_findLeft.cls ≠ "java/lang/invoke/MethodHandle" ∧ yX8_findLeft.cls ≠ "java/lang/invoke/VarHandle" ∧ (parseMethodDescriptor yX8_findLeft.desc).map (fun d => d.parameters.length) = some 2 := by decide +kernel
set_option maxHeartbeats 4000000 in
set_option maxRecDepth 100000 in
theorem c_X8_findLeft (l : Launch) (D : va_G) (ad : Nat → Nat) (cI cJ cZ : ClassId) (σ : SS) (v1 : Int32) (v2 : Int32) {res : SS} (hf : p_X8_findLeft_0 v1 v2 σ = some res) : Met l yX8_findLeft wsX8_findLeft ({ frames := 2, cells := 0, slots := 0, locals := 47 } : Room) (PW D (tyw cI cJ cZ) (wM ad cI cJ cZ σ) [.ref (ad 0), .int v1, .int v2]) (va_Qv (fun (u : SS) => u = res) (fun u t => va_P D vwCl (wM ad cI cJ cZ u) t.heap) (aM ad)) 0 0 (aM ad) := by
  refine Met.ofW (cc := cX8_findLeft) (maxL := 7) (ret := none) (by decide) rfl ?_
  intro p e s m args below meth c s₁ B hml hv
  obtain ⟨rfl, hP, hK, hD0⟩ := hv
  have hD : ∀ σ, va_D (aM ad) (wM ad cI cJ cZ σ) := fun σ => wd_D hD0 (wM_map _ _ _ _ _) (wM_map _ _ _ _ _)
  have hm : mx p s m _ meth c cX8_findLeft 7 none wsX8_findLeft RX8 := ⟨B.exec, B.bytes, B.returns, hml, findClass_of_methodNamed B.named, atoms_spec (ws := wsX8_findLeft) B.pre, B.notSynchronized⟩
  have hl := lv_entry ([.ref (ad 0), .int v1, .int v2]) (n := 7) (Nat.le_of_ble_eq_true rfl)
  rw [lg_entry_eq]
  generalize (lg_sl ([.ref (ad 0), .int v1, .int v2]) ++ List.replicate (7 - (lg_sl ([.ref (ad 0), .int v1, .int v2])).length) Slot.unset).toArray = ls at hl ⊢
  exact w_X8_findLeft_0 hm ⟨Nat.le_refl _, Nat.le_refl _⟩ hK hD v1 v2 σ hf _ _ _ hP va_S.rf hl
/-! CallGraphsModel.find(II)I -/
theorem in_X8_find_X8 : ∀ w ∈ u_ws RX8 TX8 50, w ∈ wsX8_find := fun w h => List.mem_cons_of_mem _ (List.mem_append_right _ h)
def p_X8_find_44 (k2 : Int32 → Int32 → Int32 → SS → Option (Int32 × SS)) (v1 : Int32) (v2 : Int32) (t0 : Int32) (σ : SS) : Option (Int32 × SS) := k2 v1 v2 t0 σ
set_option maxHeartbeats 4000000 in
set_option maxRecDepth 100000 in
theorem w_X8_find_44 {p : Program} {l : Launch} {e : Env} {R : Room} {s : State} {m : MethodId} {args : Array Value} {below : List Frame} {meth : Method} {c : Code} {D : va_G} {ad : Nat → Nat} {cI cJ cZ : ClassId} {res : Int32 × SS} (hm : mx p s m args meth c cX8_find 8 (some .int) wsX8_find RX8) (hR : 3 ≤ R.frames ∧ 73 ≤ R.locals) (hK : va_K D vwCl (tyw cI cJ cZ) s) (hD : ∀ σ, va_D (aM ad) (wM ad cI cJ cZ σ)) (k2 : Int32 → Int32 → Int32 → SS → Option (Int32 × SS)) (hk2 : ∀ (v1 : Int32) (v2 : Int32) (v3 : Int32) (σ : SS), k2 v1 v2 v3 σ = some res → ∀ (H : Heap) (locs : List Loc) (ls : Array Slot), va_P D vwCl (wM ad cI cJ cZ σ) H → va_S (aM ad) s.heap H locs → lv_has ls 8 [(0, .ref (ad 0)), (1, .int v1), (2, .int v2), (3, .int v3)] → W p l e R s m args below meth c H locs 0 0 (MQ below (va_Qi (fun (r : Int32) (u : SS) => (r, u) = res) (fun u t => va_P D vwCl (wM ad cI cJ cZ u) t.heap) (aM ad)) args s 0 0 (aM ad)) (F0 m 2 ls [])) (v1 : Int32) (v2 : Int32) (t0 : Int32) (σ : SS) (hf : p_X8_find_44 k2 v1 v2 t0 σ = some res) (H : Heap) (locs : List Loc) (ls : Array Slot) (hP : va_P D vwCl (wM ad cI cJ cZ σ) H) (hS : va_S (aM ad) s.heap H locs) (hl : lv_has ls 8 [(0, .ref (ad 0)), (1, .int v1), (2, .int v2)]) : W p l e R s m args below meth c H locs 0 0 (MQ below (va_Qi (fun (r : Int32) (u : SS) => (r, u) = res) (fun u t => va_P D vwCl (wM ad cI cJ cZ u) t.heap) (aM ad)) args s 0 0 (aM ad)) (F0 m 44 ls [.int t0]) := by
  obtain ⟨hx, hb, hr, hml, hown, hts, hlk⟩ := id hm
  unfold p_X8_find_44 at hf
  refine lv_istore_n (lv' := [(3, .int t0), (0, .ref (ad 0)), (1, .int v1), (2, .int v2)]) hx hb dX8_find_44 rfl hl (by decide) rfl (fun ls hl => ?_)
  refine lv_goto (tgt := 2) hx hb dX8_find_45 (by decide) ?_
  exact hk2 v1 v2 t0 σ hf _ _ _ hP hS (lv_sub hl [1, 2, 3, 0] rfl)
def p_X8_find_151 (k71 : Int32 → Int32 → Int32 → Int32 → SS → Option (Int32 × SS)) (v4 : Int32) (v5 : Int32) (v7 : Int32) (t0 : Int32) (t1 : Int32) (σ : SS) : Option (Int32 × SS) := k71 v4 v5 (t1 + t0) (v7 + (-1)) σ
set_option maxHeartbeats 4000000 in
set_option maxRecDepth 100000 in
theorem w_X8_find_151 {p : Program} {l : Launch} {e : Env} {R : Room} {s : State} {m : MethodId} {args : Array Value} {below : List Frame} {meth : Method} {c : Code} {D : va_G} {ad : Nat → Nat} {cI cJ cZ : ClassId} {res : Int32 × SS} (hm : mx p s m args meth c cX8_find 8 (some .int) wsX8_find RX8) (hR : 3 ≤ R.frames ∧ 73 ≤ R.locals) (hK : va_K D vwCl (tyw cI cJ cZ) s) (hD : ∀ σ, va_D (aM ad) (wM ad cI cJ cZ σ)) (k71 : Int32 → Int32 → Int32 → Int32 → SS → Option (Int32 × SS)) (hk71 : ∀ (v4 : Int32) (v5 : Int32) (v6 : Int32) (v7 : Int32) (σ : SS), k71 v4 v5 v6 v7 σ = some res → ∀ (H : Heap) (locs : List Loc) (ls : Array Slot), va_P D vwCl (wM ad cI cJ cZ σ) H → va_S (aM ad) s.heap H locs → lv_has ls 8 [(0, .ref (ad 0)), (4, .int v4), (5, .int v5), (6, .int v6), (7, .int v7)] → W p l e R s m args below meth c H locs 0 0 (MQ below (va_Qi (fun (r : Int32) (u : SS) => (r, u) = res) (fun u t => va_P D vwCl (wM ad cI cJ cZ u) t.heap) (aM ad)) args s 0 0 (aM ad)) (F0 m 71 ls [])) (v4 : Int32) (v5 : Int32) (v7 : Int32) (t0 : Int32) (t1 : Int32) (σ : SS) (hf : p_X8_find_151 k71 v4 v5 v7 t0 t1 σ = some res) (H : Heap) (locs : List Loc) (ls : Array Slot) (hP : va_P D vwCl (wM ad cI cJ cZ σ) H) (hS : va_S (aM ad) s.heap H locs) (hl : lv_has ls 8 [(0, .ref (ad 0)), (4, .int v4), (5, .int v5), (7, .int v7)]) : W p l e R s m args below meth c H locs 0 0 (MQ below (va_Qi (fun (r : Int32) (u : SS) => (r, u) = res) (fun u t => va_P D vwCl (wM ad cI cJ cZ u) t.heap) (aM ad)) args s 0 0 (aM ad)) (F0 m 151 ls [.int t0, .int t1]) := by
  obtain ⟨hx, hb, hr, hml, hown, hts, hlk⟩ := id hm
  unfold p_X8_find_151 at hf
  refine lv_iadd hx hb dX8_find_151 ?_
  refine lv_istore (lv' := [(6, .int (t1 + t0)), (0, .ref (ad 0)), (4, .int v4), (5, .int v5), (7, .int v7)]) hx hb dX8_find_152 hl (by decide) rfl (fun ls hl => ?_)
  refine lv_iinc (v := (v7 + (-1))) (lv' := [(7, .int (v7 + (-1))), (6, .int (t1 + t0)), (0, .ref (ad 0)), (4, .int v4), (5, .int v5)]) hx hb dX8_find_154 hl (k := 4) rfl rfl (by decide) rfl (fun ls hl => ?_)
  refine lv_goto (tgt := 71) hx hb dX8_find_157 (by decide) ?_
  exact hk71 v4 v5 (t1 + t0) (v7 + (-1)) σ hf _ _ _ hP hS (lv_sub hl [2, 3, 4, 1, 0] rfl)
def p_X8_find_150 (k71 : Int32 → Int32 → Int32 → Int32 → SS → Option (Int32 × SS)) (v4 : Int32) (v5 : Int32) (v7 : Int32) (t0 : Int32) (σ : SS) : Option (Int32 × SS) := p_X8_find_151 k71 v4 v5 v7 0 t0 σ
set_option maxHeartbeats 4000000 in
set_option maxRecDepth 100000 in
theorem w_X8_find_150 {p : Program} {l : Launch} {e : Env} {R : Room} {s : State} {m : MethodId} {args : Array Value} {below : List Frame} {meth : Method} {c : Code} {D : va_G} {ad : Nat → Nat} {cI cJ cZ : ClassId} {res : Int32 × SS} (hm : mx p s m args meth c cX8_find 8 (some .int) wsX8_find RX8) (hR : 3 ≤ R.frames ∧ 73 ≤ R.locals) (hK : va_K D vwCl (tyw cI cJ cZ) s) (hD : ∀ σ, va_D (aM ad) (wM ad cI cJ cZ σ)) (k71 : Int32 → Int32 → Int32 → Int32 → SS → Option (Int32 × SS)) (hk71 : ∀ (v4 : Int32) (v5 : Int32) (v6 : Int32) (v7 : Int32) (σ : SS), k71 v4 v5 v6 v7 σ = some res → ∀ (H : Heap) (locs : List Loc) (ls : Array Slot), va_P D vwCl (wM ad cI cJ cZ σ) H → va_S (aM ad) s.heap H locs → lv_has ls 8 [(0, .ref (ad 0)), (4, .int v4), (5, .int v5), (6, .int v6), (7, .int v7)] → W p l e R s m args below meth c H locs 0 0 (MQ below (va_Qi (fun (r : Int32) (u : SS) => (r, u) = res) (fun u t => va_P D vwCl (wM ad cI cJ cZ u) t.heap) (aM ad)) args s 0 0 (aM ad)) (F0 m 71 ls [])) (v4 : Int32) (v5 : Int32) (v7 : Int32) (t0 : Int32) (σ : SS) (hf : p_X8_find_150 k71 v4 v5 v7 t0 σ = some res) (H : Heap) (locs : List Loc) (ls : Array Slot) (hP : va_P D vwCl (wM ad cI cJ cZ σ) H) (hS : va_S (aM ad) s.heap H locs) (hl : lv_has ls 8 [(0, .ref (ad 0)), (4, .int v4), (5, .int v5), (7, .int v7)]) : W p l e R s m args below meth c H locs 0 0 (MQ below (va_Qi (fun (r : Int32) (u : SS) => (r, u) = res) (fun u t => va_P D vwCl (wM ad cI cJ cZ u) t.heap) (aM ad)) args s 0 0 (aM ad)) (F0 m 150 ls [.int t0]) := by
  obtain ⟨hx, hb, hr, hml, hown, hts, hlk⟩ := id hm
  unfold p_X8_find_150 at hf
  refine lv_iconst (v := 0) hx hb dX8_find_150 (by decide) ?_
  exact w_X8_find_151 hm hR hK hD k71 hk71 v4 v5 v7 0 t0 σ hf _ _ _ hP hS (lv_sub hl [0, 1, 2, 3] rfl)
def p_X8_find_122 (k71 : Int32 → Int32 → Int32 → Int32 → SS → Option (Int32 × SS)) (v4 : Int32) (v6 : Int32) (v7 : Int32) (t0 : Int32) (σ : SS) : Option (Int32 × SS) := oi v7 48 (if (σ.1 22 v7.toNatClampNeg) = 0 then p_X8_find_150 k71 v4 t0 v7 v6 σ else oi v7 48 (if (σ.1 7 v7.toNatClampNeg) = 0 then p_X8_find_151 k71 v4 t0 v7 1 v6 σ else p_X8_find_150 k71 v4 t0 v7 v6 σ))
set_option maxHeartbeats 4000000 in
set_option maxRecDepth 100000 in
theorem w_X8_find_122 {p : Program} {l : Launch} {e : Env} {R : Room} {s : State} {m : MethodId} {args : Array Value} {below : List Frame} {meth : Method} {c : Code} {D : va_G} {ad : Nat → Nat} {cI cJ cZ : ClassId} {res : Int32 × SS} (hm : mx p s m args meth c cX8_find 8 (some .int) wsX8_find RX8) (hR : 3 ≤ R.frames ∧ 73 ≤ R.locals) (hK : va_K D vwCl (tyw cI cJ cZ) s) (hD : ∀ σ, va_D (aM ad) (wM ad cI cJ cZ σ)) (k71 : Int32 → Int32 → Int32 → Int32 → SS → Option (Int32 × SS)) (hk71 : ∀ (v4 : Int32) (v5 : Int32) (v6 : Int32) (v7 : Int32) (σ : SS), k71 v4 v5 v6 v7 σ = some res → ∀ (H : Heap) (locs : List Loc) (ls : Array Slot), va_P D vwCl (wM ad cI cJ cZ σ) H → va_S (aM ad) s.heap H locs → lv_has ls 8 [(0, .ref (ad 0)), (4, .int v4), (5, .int v5), (6, .int v6), (7, .int v7)] → W p l e R s m args below meth c H locs 0 0 (MQ below (va_Qi (fun (r : Int32) (u : SS) => (r, u) = res) (fun u t => va_P D vwCl (wM ad cI cJ cZ u) t.heap) (aM ad)) args s 0 0 (aM ad)) (F0 m 71 ls [])) (v4 : Int32) (v6 : Int32) (v7 : Int32) (t0 : Int32) (σ : SS) (hf : p_X8_find_122 k71 v4 v6 v7 t0 σ = some res) (H : Heap) (locs : List Loc) (ls : Array Slot) (hP : va_P D vwCl (wM ad cI cJ cZ σ) H) (hS : va_S (aM ad) s.heap H locs) (hl : lv_has ls 8 [(0, .ref (ad 0)), (4, .int v4), (6, .int v6), (7, .int v7)]) : W p l e R s m args below meth c H locs 0 0 (MQ below (va_Qi (fun (r : Int32) (u : SS) => (r, u) = res) (fun u t => va_P D vwCl (wM ad cI cJ cZ u) t.heap) (aM ad)) args s 0 0 (aM ad)) (F0 m 122 ls [.int t0]) := by
  obtain ⟨hx, hb, hr, hml, hown, hts, hlk⟩ := id hm
  unfold p_X8_find_122 at hf
  refine lv_istore (lv' := [(5, .int t0), (0, .ref (ad 0)), (4, .int v4), (6, .int v6), (7, .int v7)]) hx hb dX8_find_122 hl (by decide) rfl (fun ls hl => ?_)
  refine lv_iload hx hb dX8_find_124 (lv_at hl 3 rfl) ?_
  refine lv_aload_n hx hb dX8_find_126 rfl (lv_at hl 1 rfl) ?_
  refine va_get (D := D) (ci := 7) (v := .ref (ad 22)) (C := RX8) (T := TX8) (N := 50) hx hb hts in_X8_find_X8 hown hK hP 0 (wM_0 _ _ _ _ _) rfl 27 (by decide) (hts (.fieldLink RX8 74 "CallGraphsModel" "left" "[Z") (List.mem_of_getElem? (i := 4) rfl)) (fun _ h9 => h9) (fM_0_27 _ _) dX8_find_127 ?_
  refine lv_iload hx hb dX8_find_130 (lv_at hl 4 rfl) ?_
  obtain ⟨h_132, hf⟩ := oi_e hf
  refine va_zald hx hb hK hP 22 2 (wM_22 _ _ _ _ _) rfl h_132 dX8_find_132 ?_
  refine lv_if_eq (tgt := 150) hx hb dX8_find_133 (by decide) (fun c_133 => ?_) (fun c_133 => ?_)
  · rw [if_pos c_133] at hf
    exact w_X8_find_150 hm hR hK hD k71 hk71 v4 t0 v7 v6 σ hf _ _ _ hP hS (lv_sub hl [1, 2, 0, 4] rfl)
  · rw [if_neg c_133] at hf
    refine lv_aload_n hx hb dX8_find_136 rfl (lv_at hl 1 rfl) ?_
    refine va_get (D := D) (ci := 7) (v := .ref (ad 7)) (C := RX8) (T := TX8) (N := 50) hx hb hts in_X8_find_X8 hown hK hP 0 (wM_0 _ _ _ _ _) rfl 8 (by decide) (hts (.fieldLink RX8 28 "CallGraphsModel" "sortOf" "[I") (List.mem_of_getElem? (i := 5) rfl)) (fun _ h9 => h9) (fM_0_8 _ _) dX8_find_137 ?_
    refine lv_iload hx hb dX8_find_140 (lv_at hl 4 rfl) ?_
    obtain ⟨h_142, hf⟩ := oi_e hf
    refine va_iald hx hb hK hP 7 0 (wM_7 _ _ _ _ _) rfl h_142 dX8_find_142 ?_
    refine lv_if_ne (tgt := 150) hx hb dX8_find_143 (by decide) (fun c_143 => ?_) (fun c_143 => ?_)
    · rw [if_neg c_143] at hf
      exact w_X8_find_150 hm hR hK hD k71 hk71 v4 t0 v7 v6 σ hf _ _ _ hP hS (lv_sub hl [1, 2, 0, 4] rfl)
    · rw [if_pos c_143] at hf
      refine lv_iconst (v := 1) hx hb dX8_find_146 (by decide) ?_
      refine lv_goto (tgt := 151) hx hb dX8_find_147 (by decide) ?_
      exact w_X8_find_151 hm hR hK hD k71 hk71 v4 t0 v7 1 v6 σ hf _ _ _ hP hS (lv_sub hl [1, 2, 0, 4] rfl)
def p_X8_find_120 (k71 : Int32 → Int32 → Int32 → Int32 → SS → Option (Int32 × SS)) (v4 : Int32) (v5 : Int32) (v6 : Int32) (v7 : Int32) (σ : SS) : Option (Int32 × SS) := p_X8_find_122 k71 v4 v6 v7 v5 σ
set_option maxHeartbeats 4000000 in
set_option maxRecDepth 100000 in
theorem w_X8_find_120 {p : Program} {l : Launch} {e : Env} {R : Room} {s : State} {m : MethodId} {args : Array Value} {below : List Frame} {meth : Method} {c : Code} {D : va_G} {ad : Nat → Nat} {cI cJ cZ : ClassId} {res : Int32 × SS} (hm : mx p s m args meth c cX8_find 8 (some .int) wsX8_find RX8) (hR : 3 ≤ R.frames ∧ 73 ≤ R.locals) (hK : va_K D vwCl (tyw cI cJ cZ) s) (hD : ∀ σ, va_D (aM ad) (wM ad cI cJ cZ σ)) (k71 : Int32 → Int32 → Int32 → Int32 → SS → Option (Int32 × SS)) (hk71 : ∀ (v4 : Int32) (v5 : Int32) (v6 : Int32) (v7 : Int32) (σ : SS), k71 v4 v5 v6 v7 σ = some res → ∀ (H : Heap) (locs : List Loc) (ls : Array Slot), va_P D vwCl (wM ad cI cJ cZ σ) H → va_S (aM ad) s.heap H locs → lv_has ls 8 [(0, .ref (ad 0)), (4, .int v4), (5, .int v5), (6, .int v6), (7, .int v7)] → W p l e R s m args below meth c H locs 0 0 (MQ below (va_Qi (fun (r : Int32) (u : SS) => (r, u) = res) (fun u t => va_P D vwCl (wM ad cI cJ cZ u) t.heap) (aM ad)) args s 0 0 (aM ad)) (F0 m 71 ls [])) (v4 : Int32) (v5 : Int32) (v6 : Int32) (v7 : Int32) (σ : SS) (hf : p_X8_find_120 k71 v4 v5 v6 v7 σ = some res) (H : Heap) (locs : List Loc) (ls : Array Slot) (hP : va_P D vwCl (wM ad cI cJ cZ σ) H) (hS : va_S (aM ad) s.heap H locs) (hl : lv_has ls 8 [(0, .ref (ad 0)), (4, .int v4), (5, .int v5), (6, .int v6), (7, .int v7)]) : W p l e R s m args below meth c H locs 0 0 (MQ below (va_Qi (fun (r : Int32) (u : SS) => (r, u) = res) (fun u t => va_P D vwCl (wM ad cI cJ cZ u) t.heap) (aM ad)) args s 0 0 (aM ad)) (F0 m 120 ls []) := by
  obtain ⟨hx, hb, hr, hml, hown, hts, hlk⟩ := id hm
  unfold p_X8_find_120 at hf
  refine lv_iload hx hb dX8_find_120 (lv_at hl 2 rfl) ?_
  exact w_X8_find_122 hm hR hK hD k71 hk71 v4 v6 v7 v5 σ hf _ _ _ hP hS (lv_sub hl [0, 1, 3, 4] rfl)
def p_X8_find_93 (k71 : Int32 → Int32 → Int32 → Int32 → SS → Option (Int32 × SS)) (v5 : Int32) (v6 : Int32) (v7 : Int32) (t0 : Int32) (σ : SS) : Option (Int32 × SS) := oi v7 48 (if (σ.1 22 v7.toNatClampNeg) = 0 then p_X8_find_120 k71 t0 v5 v6 v7 σ else oi v7 48 (if (σ.1 7 v7.toNatClampNeg) = 0 then p_X8_find_122 k71 t0 v6 v7 v7 σ else p_X8_find_120 k71 t0 v5 v6 v7 σ))
set_option maxHeartbeats 4000000 in
set_option maxRecDepth 100000 in
theorem w_X8_find_93 {p : Program} {l : Launch} {e : Env} {R : Room} {s : State} {m : MethodId} {args : Array Value} {below : List Frame} {meth : Method} {c : Code} {D : va_G} {ad : Nat → Nat} {cI cJ cZ : ClassId} {res : Int32 × SS} (hm : mx p s m args meth c cX8_find 8 (some .int) wsX8_find RX8) (hR : 3 ≤ R.frames ∧ 73 ≤ R.locals) (hK : va_K D vwCl (tyw cI cJ cZ) s) (hD : ∀ σ, va_D (aM ad) (wM ad cI cJ cZ σ)) (k71 : Int32 → Int32 → Int32 → Int32 → SS → Option (Int32 × SS)) (hk71 : ∀ (v4 : Int32) (v5 : Int32) (v6 : Int32) (v7 : Int32) (σ : SS), k71 v4 v5 v6 v7 σ = some res → ∀ (H : Heap) (locs : List Loc) (ls : Array Slot), va_P D vwCl (wM ad cI cJ cZ σ) H → va_S (aM ad) s.heap H locs → lv_has ls 8 [(0, .ref (ad 0)), (4, .int v4), (5, .int v5), (6, .int v6), (7, .int v7)] → W p l e R s m args below meth c H locs 0 0 (MQ below (va_Qi (fun (r : Int32) (u : SS) => (r, u) = res) (fun u t => va_P D vwCl (wM ad cI cJ cZ u) t.heap) (aM ad)) args s 0 0 (aM ad)) (F0 m 71 ls [])) (v5 : Int32) (v6 : Int32) (v7 : Int32) (t0 : Int32) (σ : SS) (hf : p_X8_find_93 k71 v5 v6 v7 t0 σ = some res) (H : Heap) (locs : List Loc) (ls : Array Slot) (hP : va_P D vwCl (wM ad cI cJ cZ σ) H) (hS : va_S (aM ad) s.heap H locs) (hl : lv_has ls 8 [(0, .ref (ad 0)), (5, .int v5), (6, .int v6), (7, .int v7)]) : W p l e R s m args below meth c H locs 0 0 (MQ below (va_Qi (fun (r : Int32) (u : SS) => (r, u) = res) (fun u t => va_P D vwCl (wM ad cI cJ cZ u) t.heap) (aM ad)) args s 0 0 (aM ad)) (F0 m 93 ls [.int t0]) := by
  obtain ⟨hx, hb, hr, hml, hown, hts, hlk⟩ := id hm
  unfold p_X8_find_93 at hf
  refine lv_istore (lv' := [(4, .int t0), (0, .ref (ad 0)), (5, .int v5), (6, .int v6), (7, .int v7)]) hx hb dX8_find_93 hl (by decide) rfl (fun ls hl => ?_)
  refine lv_aload_n hx hb dX8_find_95 rfl (lv_at hl 1 rfl) ?_
  refine va_get (D := D) (ci := 7) (v := .ref (ad 22)) (C := RX8) (T := TX8) (N := 50) hx hb hts in_X8_find_X8 hown hK hP 0 (wM_0 _ _ _ _ _) rfl 27 (by decide) (hts (.fieldLink RX8 74 "CallGraphsModel" "left" "[Z") (List.mem_of_getElem? (i := 4) rfl)) (fun _ h9 => h9) (fM_0_27 _ _) dX8_find_96 ?_
  refine lv_iload hx hb dX8_find_99 (lv_at hl 4 rfl) ?_
  obtain ⟨h_101, hf⟩ := oi_e hf
  refine va_zald hx hb hK hP 22 2 (wM_22 _ _ _ _ _) rfl h_101 dX8_find_101 ?_
  refine lv_if_eq (tgt := 120) hx hb dX8_find_102 (by decide) (fun c_102 => ?_) (fun c_102 => ?_)
  · rw [if_pos c_102] at hf
    exact w_X8_find_120 hm hR hK hD k71 hk71 t0 v5 v6 v7 σ hf _ _ _ hP hS (lv_sub hl [1, 0, 2, 3, 4] rfl)
  · rw [if_neg c_102] at hf
    refine lv_aload_n hx hb dX8_find_105 rfl (lv_at hl 1 rfl) ?_
    refine va_get (D := D) (ci := 7) (v := .ref (ad 7)) (C := RX8) (T := TX8) (N := 50) hx hb hts in_X8_find_X8 hown hK hP 0 (wM_0 _ _ _ _ _) rfl 8 (by decide) (hts (.fieldLink RX8 28 "CallGraphsModel" "sortOf" "[I") (List.mem_of_getElem? (i := 5) rfl)) (fun _ h9 => h9) (fM_0_8 _ _) dX8_find_106 ?_
    refine lv_iload hx hb dX8_find_109 (lv_at hl 4 rfl) ?_
    obtain ⟨h_111, hf⟩ := oi_e hf
    refine va_iald hx hb hK hP 7 0 (wM_7 _ _ _ _ _) rfl h_111 dX8_find_111 ?_
    refine lv_if_ne (tgt := 120) hx hb dX8_find_112 (by decide) (fun c_112 => ?_) (fun c_112 => ?_)
    · rw [if_neg c_112] at hf
      exact w_X8_find_120 hm hR hK hD k71 hk71 t0 v5 v6 v7 σ hf _ _ _ hP hS (lv_sub hl [1, 0, 2, 3, 4] rfl)
    · rw [if_pos c_112] at hf
      refine lv_iload hx hb dX8_find_115 (lv_at hl 4 rfl) ?_
      refine lv_goto (tgt := 122) hx hb dX8_find_117 (by decide) ?_
      exact w_X8_find_122 hm hR hK hD k71 hk71 t0 v6 v7 v7 σ hf _ _ _ hP hS (lv_sub hl [1, 0, 3, 4] rfl)
def p_X8_find_173 (t0 : Int32) (σ : SS) : Option (Int32 × SS) := some (t0, σ)
set_option maxHeartbeats 4000000 in
set_option maxRecDepth 100000 in
theorem w_X8_find_173 {p : Program} {l : Launch} {e : Env} {R : Room} {s : State} {m : MethodId} {args : Array Value} {below : List Frame} {meth : Method} {c : Code} {D : va_G} {ad : Nat → Nat} {cI cJ cZ : ClassId} {res : Int32 × SS} (hm : mx p s m args meth c cX8_find 8 (some .int) wsX8_find RX8) (hR : 3 ≤ R.frames ∧ 73 ≤ R.locals) (hK : va_K D vwCl (tyw cI cJ cZ) s) (hD : ∀ σ, va_D (aM ad) (wM ad cI cJ cZ σ)) (t0 : Int32) (σ : SS) (hf : p_X8_find_173 t0 σ = some res) (H : Heap) (locs : List Loc) (ls : Array Slot) (hP : va_P D vwCl (wM ad cI cJ cZ σ) H) (hS : va_S (aM ad) s.heap H locs) (hl : lv_has ls 8 []) : W p l e R s m args below meth c H locs 0 0 (MQ below (va_Qi (fun (r : Int32) (u : SS) => (r, u) = res) (fun u t => va_P D vwCl (wM ad cI cJ cZ u) t.heap) (aM ad)) args s 0 0 (aM ad)) (F0 m 173 ls [.int t0]) := by
  obtain ⟨hx, hb, hr, hml, hown, hts, hlk⟩ := id hm
  unfold p_X8_find_173 at hf
  exact rt_i (wd := wM ad cI cJ cZ) hx hb hr hlk (Option.some.inj hf) hP hS dX8_find_173
def p_X8_find_71 : Nat → Int32 → Int32 → Int32 → Int32 → SS → Option (Int32 × SS)
  | 0, _, _, _, _, _ => none
  | n + 1, v4, v5, v6, v7, σ => let k71 := p_X8_find_71 n; if v7 < 0 then if v6 = 1 then p_X8_find_173 v5 σ else p_X8_find_173 v4 σ else oi v7 48 (if (σ.1 22 v7.toNatClampNeg) = 0 then p_X8_find_93 k71 v5 v6 v7 v4 σ else p_X8_find_93 k71 v5 v6 v7 v7 σ)
set_option maxHeartbeats 4000000 in
set_option maxRecDepth 100000 in
theorem w_X8_find_71 {p : Program} {l : Launch} {e : Env} {R : Room} {s : State} {m : MethodId} {args : Array Value} {below : List Frame} {meth : Method} {c : Code} {D : va_G} {ad : Nat → Nat} {cI cJ cZ : ClassId} {res : Int32 × SS} (hm : mx p s m args meth c cX8_find 8 (some .int) wsX8_find RX8) (hR : 3 ≤ R.frames ∧ 73 ≤ R.locals) (hK : va_K D vwCl (tyw cI cJ cZ) s) (hD : ∀ σ, va_D (aM ad) (wM ad cI cJ cZ σ)) : ∀ (n : Nat) (v4 : Int32) (v5 : Int32) (v6 : Int32) (v7 : Int32) (σ : SS), p_X8_find_71 n v4 v5 v6 v7 σ = some res → ∀ (H : Heap) (locs : List Loc) (ls : Array Slot), va_P D vwCl (wM ad cI cJ cZ σ) H → va_S (aM ad) s.heap H locs → lv_has ls 8 [(0, .ref (ad 0)), (4, .int v4), (5, .int v5), (6, .int v6), (7, .int v7)] → W p l e R s m args below meth c H locs 0 0 (MQ below (va_Qi (fun (r : Int32) (u : SS) => (r, u) = res) (fun u t => va_P D vwCl (wM ad cI cJ cZ u) t.heap) (aM ad)) args s 0 0 (aM ad)) (F0 m 71 ls []) := by
  obtain ⟨hx, hb, hr, hml, hown, hts, hlk⟩ := id hm
  intro n
  induction n with
  | zero =>
    intro _ _ _ _ _ hf
    cases hf
  | succ n hk71 =>
    intro v4 v5 v6 v7 σ hf H locs ls hP hS hl
    rw [p_X8_find_71] at hf
    try dsimp only at hf
    refine lv_iload hx hb dX8_find_71 (lv_at hl 4 rfl) ?_
    refine lv_if_lt (tgt := 160) hx hb dX8_find_73 (by decide) (fun c_73 => ?_) (fun c_73 => ?_)
    · rw [if_pos c_73] at hf
      refine lv_iload hx hb dX8_find_160 (lv_at hl 3 rfl) ?_
      refine lv_iconst (v := 1) hx hb dX8_find_162 (by decide) ?_
      refine lv_icmp_ne (tgt := 171) hx hb dX8_find_163 (by decide) (fun c_163 => ?_) (fun c_163 => ?_)
      · rw [if_neg c_163] at hf
        refine lv_iload hx hb dX8_find_171 (lv_at hl 1 rfl) ?_
        exact w_X8_find_173 hm hR hK hD v4 σ hf _ _ _ hP hS (lv_sub hl [] rfl)
      · rw [if_pos c_163] at hf
        refine lv_iload hx hb dX8_find_166 (lv_at hl 2 rfl) ?_
        refine lv_goto (tgt := 173) hx hb dX8_find_168 (by decide) ?_
        exact w_X8_find_173 hm hR hK hD v5 σ hf _ _ _ hP hS (lv_sub hl [] rfl)
    · rw [if_neg c_73] at hf
      refine lv_aload_n hx hb dX8_find_76 rfl (lv_at hl 0 rfl) ?_
      refine va_get (D := D) (ci := 7) (v := .ref (ad 22)) (C := RX8) (T := TX8) (N := 50) hx hb hts in_X8_find_X8 hown hK hP 0 (wM_0 _ _ _ _ _) rfl 27 (by decide) (hts (.fieldLink RX8 74 "CallGraphsModel" "left" "[Z") (List.mem_of_getElem? (i := 4) rfl)) (fun _ h9 => h9) (fM_0_27 _ _) dX8_find_77 ?_
      refine lv_iload hx hb dX8_find_80 (lv_at hl 4 rfl) ?_
      obtain ⟨h_82, hf⟩ := oi_e hf
      refine va_zald hx hb hK hP 22 2 (wM_22 _ _ _ _ _) rfl h_82 dX8_find_82 ?_
      refine lv_if_eq (tgt := 91) hx hb dX8_find_83 (by decide) (fun c_83 => ?_) (fun c_83 => ?_)
      · rw [if_pos c_83] at hf
        refine lv_iload hx hb dX8_find_91 (lv_at hl 1 rfl) ?_
        exact w_X8_find_93 hm hR hK hD (p_X8_find_71 n) hk71 v5 v6 v7 v4 σ hf _ _ _ hP hS (lv_sub hl [0, 2, 3, 4] rfl)
      · rw [if_neg c_83] at hf
        refine lv_iload hx hb dX8_find_86 (lv_at hl 4 rfl) ?_
        refine lv_goto (tgt := 93) hx hb dX8_find_88 (by decide) ?_
        exact w_X8_find_93 hm hR hK hD (p_X8_find_71 n) hk71 v5 v6 v7 v7 σ hf _ _ _ hP hS (lv_sub hl [0, 2, 3, 4] rfl)
def p_X8_find_2 : Nat → Int32 → Int32 → Int32 → SS → Option (Int32 × SS)
  | 0, _, _, _, _ => none
  | n + 1, v1, v2, v3, σ => let k2 := p_X8_find_2 n; if v3 = (-1) then oc (p_X8_findLeft_0 v1 v2 σ) (fun r_51 => p_X8_find_71 100000 (-1) (-1) 0 ((r_51.1 0 5) - 1) r_51) else oc (p_X8_ownOf_0 σ v3 v2) (fun r_10 => if r_10 = (-1) then oi v3 16 (if (σ.1 1 v3.toNatClampNeg) = 2 then p_X8_find_44 k2 v1 v2 (-1) σ else oi v3 16 (p_X8_find_44 k2 v1 v2 (σ.1 2 v3.toNatClampNeg) σ)) else some (r_10, σ))
set_option maxHeartbeats 4000000 in
set_option maxRecDepth 100000 in
theorem w_X8_find_2 {p : Program} {l : Launch} {e : Env} {R : Room} {s : State} {m : MethodId} {args : Array Value} {below : List Frame} {meth : Method} {c : Code} {D : va_G} {ad : Nat → Nat} {cI cJ cZ : ClassId} {res : Int32 × SS} (hm : mx p s m args meth c cX8_find 8 (some .int) wsX8_find RX8) (hR : 3 ≤ R.frames ∧ 73 ≤ R.locals) (hK : va_K D vwCl (tyw cI cJ cZ) s) (hD : ∀ σ, va_D (aM ad) (wM ad cI cJ cZ σ)) : ∀ (n : Nat) (v1 : Int32) (v2 : Int32) (v3 : Int32) (σ : SS), p_X8_find_2 n v1 v2 v3 σ = some res → ∀ (H : Heap) (locs : List Loc) (ls : Array Slot), va_P D vwCl (wM ad cI cJ cZ σ) H → va_S (aM ad) s.heap H locs → lv_has ls 8 [(0, .ref (ad 0)), (1, .int v1), (2, .int v2), (3, .int v3)] → W p l e R s m args below meth c H locs 0 0 (MQ below (va_Qi (fun (r : Int32) (u : SS) => (r, u) = res) (fun u t => va_P D vwCl (wM ad cI cJ cZ u) t.heap) (aM ad)) args s 0 0 (aM ad)) (F0 m 2 ls []) := by
  obtain ⟨hx, hb, hr, hml, hown, hts, hlk⟩ := id hm
  intro n
  induction n with
  | zero =>
    intro _ _ _ _ hf
    cases hf
  | succ n hk2 =>
    intro v1 v2 v3 σ hf H locs ls hP hS hl
    rw [p_X8_find_2] at hf
    try dsimp only at hf
    refine lv_iload_n hx hb dX8_find_2 rfl (lv_at hl 3 rfl) ?_
    refine lv_iconst (v := (-1)) hx hb dX8_find_3 (by decide) ?_
    refine lv_icmp_eq (tgt := 48) hx hb dX8_find_4 (by decide) (fun c_4 => ?_) (fun c_4 => ?_)
    · rw [if_pos c_4] at hf
      refine lv_aload_n hx hb dX8_find_48 rfl (lv_at hl 0 rfl) ?_
      refine lv_iload_n hx hb dX8_find_49 rfl (lv_at hl 1 rfl) ?_
      refine lv_iload_n hx hb dX8_find_50 rfl (lv_at hl 2 rfl) ?_
      obtain ⟨r_51, hg_51, hf⟩ := oc_e hf
      refine mV_wv (wd := wM ad cI cJ cZ) (σ := σ) (As := [.int v1, .int v2]) (rest := []) ⟨hx, hb, hml, hown, hts⟩ hK hP hD hS (c_X8_findLeft l D ad cI cJ cZ σ v1 v2 hg_51) (cwV 2 hts gX8_find_X8_findLeft rfl rfl rfl hd_X8_findLeft ⟨Nat.le_trans (Nat.le_of_ble_eq_true rfl) hR.1, Nat.le_trans (Nat.le_of_ble_eq_true rfl) hR.2⟩) rfl (wM_0 _ _ _ _ _) rfl hl.1 rfl (Nat.le_of_ble_eq_true rfl) dX8_find_51 (fun H locs hP hS => ?_)
      refine lv_iconst (v := (-1)) hx hb dX8_find_54 (by decide) ?_
      refine lv_istore (lv' := [(4, .int (-1)), (0, .ref (ad 0)), (1, .int v1), (2, .int v2), (3, .int v3)]) hx hb dX8_find_55 hl (by decide) rfl (fun ls hl => ?_)
      refine lv_iconst (v := (-1)) hx hb dX8_find_57 (by decide) ?_
      refine lv_istore (lv' := [(5, .int (-1)), (4, .int (-1)), (0, .ref (ad 0)), (1, .int v1), (2, .int v2), (3, .int v3)]) hx hb dX8_find_58 hl (by decide) rfl (fun ls hl => ?_)
      refine lv_iconst (v := 0) hx hb dX8_find_60 (by decide) ?_
      refine lv_istore (lv' := [(6, .int 0), (5, .int (-1)), (4, .int (-1)), (0, .ref (ad 0)), (1, .int v1), (2, .int v2), (3, .int v3)]) hx hb dX8_find_61 hl (by decide) rfl (fun ls hl => ?_)
      refine lv_aload_n hx hb dX8_find_63 rfl (lv_at hl 3 rfl) ?_
      refine va_get (D := D) (ci := 7) (v := .int (r_51.1 0 5)) (C := RX8) (T := TX8) (N := 50) hx hb hts in_X8_find_X8 hown hK hP 0 (wM_0 _ _ _ _ _) rfl 5 (by decide) (hts (.fieldLink RX8 131 "CallGraphsModel" "members" "I") (List.mem_of_getElem? (i := 3) rfl)) (fun _ h9 => h9) (fM_0_5 _ _) dX8_find_64 ?_
      refine lv_iconst (v := 1) hx hb dX8_find_67 (by decide) ?_
      refine lv_isub hx hb dX8_find_68 ?_
      refine lv_istore (lv' := [(7, .int ((r_51.1 0 5) - 1)), (6, .int 0), (5, .int (-1)), (4, .int (-1)), (0, .ref (ad 0)), (1, .int v1), (2, .int v2), (3, .int v3)]) hx hb dX8_find_69 hl (by decide) rfl (fun ls hl => ?_)
      exact w_X8_find_71 hm hR hK hD 100000 (-1) (-1) 0 ((r_51.1 0 5) - 1) r_51 hf _ _ _ hP hS (lv_sub hl [4, 3, 2, 1, 0] rfl)
    · rw [if_neg c_4] at hf
      refine lv_aload_n hx hb dX8_find_7 rfl (lv_at hl 0 rfl) ?_
      refine lv_iload_n hx hb dX8_find_8 rfl (lv_at hl 3 rfl) ?_
      refine lv_iload_n hx hb dX8_find_9 rfl (lv_at hl 2 rfl) ?_
      obtain ⟨r_10, hg_10, hf⟩ := oc_e hf
      refine mV_ri (wd := wM ad cI cJ cZ) (σ := σ) (As := [.int v3, .int v2]) (rest := []) ⟨hx, hb, hml, hown, hts⟩ hK hP hD hS (c_X8_ownOf l D ad cI cJ cZ σ v3 v2 hg_10) (cwV 2 hts gX8_find_X8_ownOf rfl rfl rfl hd_X8_ownOf ⟨Nat.le_trans (Nat.le_of_ble_eq_true rfl) hR.1, Nat.le_trans (Nat.le_of_ble_eq_true rfl) hR.2⟩) rfl (wM_0 _ _ _ _ _) rfl hl.1 rfl (Nat.le_of_ble_eq_true rfl) dX8_find_10 (fun H locs hP hS => ?_)
      refine lv_istore (lv' := [(4, .int r_10), (0, .ref (ad 0)), (1, .int v1), (2, .int v2), (3, .int v3)]) hx hb dX8_find_13 hl (by decide) rfl (fun ls hl => ?_)
      refine lv_iload hx hb dX8_find_15 (lv_at hl 0 rfl) ?_
      refine lv_iconst (v := (-1)) hx hb dX8_find_17 (by decide) ?_
      refine lv_icmp_eq (tgt := 24) hx hb dX8_find_18 (by decide) (fun c_18 => ?_) (fun c_18 => ?_)
      · rw [if_pos c_18] at hf
        refine lv_aload_n hx hb dX8_find_24 rfl (lv_at hl 1 rfl) ?_
        refine va_get (D := D) (ci := 7) (v := .ref (ad 1)) (C := RX8) (T := TX8) (N := 50) hx hb hts in_X8_find_X8 hown hK hP 0 (wM_0 _ _ _ _ _) rfl 1 (by decide) (hts (.fieldLink RX8 7 "CallGraphsModel" "kindOf" "[I") (List.mem_of_getElem? (i := 1) rfl)) (fun _ h9 => h9) (fM_0_1 _ _) dX8_find_25 ?_
        refine lv_iload_n hx hb dX8_find_28 rfl (lv_at hl 4 rfl) ?_
        obtain ⟨h_29, hf⟩ := oi_e hf
        refine va_iald hx hb hK hP 1 0 (wM_1 _ _ _ _ _) rfl h_29 dX8_find_29 ?_
        refine lv_iconst (v := 2) hx hb dX8_find_30 (by decide) ?_
        refine lv_icmp_ne (tgt := 38) hx hb dX8_find_31 (by decide) (fun c_31 => ?_) (fun c_31 => ?_)
        · rw [if_neg c_31] at hf
          refine lv_aload_n hx hb dX8_find_38 rfl (lv_at hl 1 rfl) ?_
          refine va_get (D := D) (ci := 7) (v := .ref (ad 2)) (C := RX8) (T := TX8) (N := 50) hx hb hts in_X8_find_X8 hown hK hP 0 (wM_0 _ _ _ _ _) rfl 2 (by decide) (hts (.fieldLink RX8 13 "CallGraphsModel" "superOf" "[I") (List.mem_of_getElem? (i := 2) rfl)) (fun _ h9 => h9) (fM_0_2 _ _) dX8_find_39 ?_
          refine lv_iload_n hx hb dX8_find_42 rfl (lv_at hl 4 rfl) ?_
          obtain ⟨h_43, hf⟩ := oi_e hf
          refine va_iald hx hb hK hP 2 0 (wM_2 _ _ _ _ _) rfl h_43 dX8_find_43 ?_
          exact w_X8_find_44 hm hR hK hD (p_X8_find_2 n) hk2 v1 v2 (σ.1 2 v3.toNatClampNeg) σ hf _ _ _ hP hS (lv_sub hl [1, 2, 3] rfl)
        · rw [if_pos c_31] at hf
          refine lv_iconst (v := (-1)) hx hb dX8_find_34 (by decide) ?_
          refine lv_goto (tgt := 44) hx hb dX8_find_35 (by decide) ?_
          exact w_X8_find_44 hm hR hK hD (p_X8_find_2 n) hk2 v1 v2 (-1) σ hf _ _ _ hP hS (lv_sub hl [1, 2, 3] rfl)
      · rw [if_neg c_18] at hf
        refine lv_iload hx hb dX8_find_21 (lv_at hl 0 rfl) ?_
        exact rt_i (wd := wM ad cI cJ cZ) hx hb hr hlk (Option.some.inj hf) hP hS dX8_find_23
def p_X8_find_0 (v1 : Int32) (v2 : Int32) (σ : SS) : Option (Int32 × SS) := p_X8_find_2 100000 v1 v2 v1 σ
set_option maxHeartbeats 4000000 in
set_option maxRecDepth 100000 in
theorem w_X8_find_0 {p : Program} {l : Launch} {e : Env} {R : Room} {s : State} {m : MethodId} {args : Array Value} {below : List Frame} {meth : Method} {c : Code} {D : va_G} {ad : Nat → Nat} {cI cJ cZ : ClassId} {res : Int32 × SS} (hm : mx p s m args meth c cX8_find 8 (some .int) wsX8_find RX8) (hR : 3 ≤ R.frames ∧ 73 ≤ R.locals) (hK : va_K D vwCl (tyw cI cJ cZ) s) (hD : ∀ σ, va_D (aM ad) (wM ad cI cJ cZ σ)) (v1 : Int32) (v2 : Int32) (σ : SS) (hf : p_X8_find_0 v1 v2 σ = some res) (H : Heap) (locs : List Loc) (ls : Array Slot) (hP : va_P D vwCl (wM ad cI cJ cZ σ) H) (hS : va_S (aM ad) s.heap H locs) (hl : lv_has ls 8 [(0, .ref (ad 0)), (1, .int v1), (2, .int v2)]) : W p l e R s m args below meth c H locs 0 0 (MQ below (va_Qi (fun (r : Int32) (u : SS) => (r, u) = res) (fun u t => va_P D vwCl (wM ad cI cJ cZ u) t.heap) (aM ad)) args s 0 0 (aM ad)) (F0 m 0 ls []) := by
  obtain ⟨hx, hb, hr, hml, hown, hts, hlk⟩ := id hm
  unfold p_X8_find_0 at hf
  refine lv_iload_n hx hb dX8_find_0 rfl (lv_at hl 1 rfl) ?_
  refine lv_istore_n (lv' := [(3, .int v1), (0, .ref (ad 0)), (1, .int v1), (2, .int v2)]) hx hb dX8_find_1 rfl hl (by decide) rfl (fun ls hl => ?_)
  exact w_X8_find_2 hm hR hK hD 100000 v1 v2 v1 σ hf _ _ _ hP hS (lv_sub hl [1, 2, 3, 0] rfl)
theorem hd_X8_find : yX8_find.cls = RX8 ∧ yX8_find.cls ≠ "java/lang/invoke/MethodHandle" ∧ yX8_find.cls ≠ "java/lang/invoke/VarHandle" ∧ (parseMethodDescriptor yX8_find.desc).map (fun d => d.parameters.length) = some 2 := by decide +kernel
set_option maxHeartbeats 4000000 in
set_option maxRecDepth 100000 in
theorem c_X8_find (l : Launch) (D : va_G) (ad : Nat → Nat) (cI cJ cZ : ClassId) (σ : SS) (v1 : Int32) (v2 : Int32) {res : Int32 × SS} (hf : p_X8_find_0 v1 v2 σ = some res) : Met l yX8_find wsX8_find ({ frames := 3, cells := 0, slots := 0, locals := 73 } : Room) (PW D (tyw cI cJ cZ) (wM ad cI cJ cZ σ) [.ref (ad 0), .int v1, .int v2]) (va_Qi (fun (r : Int32) (u : SS) => (r, u) = res) (fun u t => va_P D vwCl (wM ad cI cJ cZ u) t.heap) (aM ad)) 0 0 (aM ad) := by
  refine Met.ofW (cc := cX8_find) (maxL := 8) (ret := (some .int)) (by decide) rfl ?_
  intro p e s m args below meth c s₁ B hml hv
  obtain ⟨rfl, hP, hK, hD0⟩ := hv
  have hD : ∀ σ, va_D (aM ad) (wM ad cI cJ cZ σ) := fun σ => wd_D hD0 (wM_map _ _ _ _ _) (wM_map _ _ _ _ _)
  have hm : mx p s m _ meth c cX8_find 8 (some .int) wsX8_find RX8 := ⟨B.exec, B.bytes, B.returns, hml, findClass_of_methodNamed B.named, atoms_spec (ws := wsX8_find) B.pre, B.notSynchronized⟩
  have hl := lv_entry ([.ref (ad 0), .int v1, .int v2]) (n := 8) (Nat.le_of_ble_eq_true rfl)
  rw [lg_entry_eq]
  generalize (lg_sl ([.ref (ad 0), .int v1, .int v2]) ++ List.replicate (8 - (lg_sl ([.ref (ad 0), .int v1, .int v2])).length) Slot.unset).toArray = ls at hl ⊢
  exact w_X8_find_0 hm ⟨Nat.le_refl _, Nat.le_refl _⟩ hK hD v1 v2 σ hf _ _ _ hP va_S.rf hl
/-! CallGraphsModel.choose(II)I -/
theorem in_X8_choose_X8 : ∀ w ∈ u_ws RX8 TX8 50, w ∈ wsX8_choose := fun w h => List.mem_cons_of_mem _ (List.mem_append_right _ h)
def p_X8_choose_76 (t0 : Int32) (σ : SS) : Option (Int32 × SS) := some (t0, σ)
set_option maxHeartbeats 4000000 in
set_option maxRecDepth 100000 in
theorem w_X8_choose_76 {p : Program} {l : Launch} {e : Env} {R : Room} {s : State} {m : MethodId} {args : Array Value} {below : List Frame} {meth : Method} {c : Code} {D : va_G} {ad : Nat → Nat} {cI cJ cZ : ClassId} {res : Int32 × SS} (hm : mx p s m args meth c cX8_choose 6 (some .int) wsX8_choose RX8) (hR : 3 ≤ R.frames ∧ 73 ≤ R.locals) (hK : va_K D vwCl (tyw cI cJ cZ) s) (hD : ∀ σ, va_D (aM ad) (wM ad cI cJ cZ σ)) (t0 : Int32) (σ : SS) (hf : p_X8_choose_76 t0 σ = some res) (H : Heap) (locs : List Loc) (ls : Array Slot) (hP : va_P D vwCl (wM ad cI cJ cZ σ) H) (hS : va_S (aM ad) s.heap H locs) (hl : lv_has ls 6 []) : W p l e R s m args below meth c H locs 0 0 (MQ below (va_Qi (fun (r : Int32) (u : SS) => (r, u) = res) (fun u t => va_P D vwCl (wM ad cI cJ cZ u) t.heap) (aM ad)) args s 0 0 (aM ad)) (F0 m 76 ls [.int t0]) := by
  obtain ⟨hx, hb, hr, hml, hown, hts, hlk⟩ := id hm
  unfold p_X8_choose_76 at hf
  exact rt_i (wd := wM ad cI cJ cZ) hx hb hr hlk (Option.some.inj hf) hP hS dX8_choose_76
def p_X8_choose_59 (v4 : Int32) (σ : SS) : Option (Int32 × SS) := oi v4 48 (if (σ.1 7 v4.toNatClampNeg) = 0 then p_X8_choose_76 v4 σ else p_X8_choose_76 (-4) σ)
set_option maxHeartbeats 4000000 in
set_option maxRecDepth 100000 in
theorem w_X8_choose_59 {p : Program} {l : Launch} {e : Env} {R : Room} {s : State} {m : MethodId} {args : Array Value} {below : List Frame} {meth : Method} {c : Code} {D : va_G} {ad : Nat → Nat} {cI cJ cZ : ClassId} {res : Int32 × SS} (hm : mx p s m args meth c cX8_choose 6 (some .int) wsX8_choose RX8) (hR : 3 ≤ R.frames ∧ 73 ≤ R.locals) (hK : va_K D vwCl (tyw cI cJ cZ) s) (hD : ∀ σ, va_D (aM ad) (wM ad cI cJ cZ σ)) (v4 : Int32) (σ : SS) (hf : p_X8_choose_59 v4 σ = some res) (H : Heap) (locs : List Loc) (ls : Array Slot) (hP : va_P D vwCl (wM ad cI cJ cZ σ) H) (hS : va_S (aM ad) s.heap H locs) (hl : lv_has ls 6 [(0, .ref (ad 0)), (4, .int v4)]) : W p l e R s m args below meth c H locs 0 0 (MQ below (va_Qi (fun (r : Int32) (u : SS) => (r, u) = res) (fun u t => va_P D vwCl (wM ad cI cJ cZ u) t.heap) (aM ad)) args s 0 0 (aM ad)) (F0 m 59 ls []) := by
  obtain ⟨hx, hb, hr, hml, hown, hts, hlk⟩ := id hm
  unfold p_X8_choose_59 at hf
  refine lv_aload_n hx hb dX8_choose_59 rfl (lv_at hl 0 rfl) ?_
  refine va_get (D := D) (ci := 7) (v := .ref (ad 7)) (C := RX8) (T := TX8) (N := 50) hx hb hts in_X8_choose_X8 hown hK hP 0 (wM_0 _ _ _ _ _) rfl 8 (by decide) (hts (.fieldLink RX8 28 "CallGraphsModel" "sortOf" "[I") (List.mem_of_getElem? (i := 1) rfl)) (fun _ h9 => h9) (fM_0_8 _ _) dX8_choose_60 ?_
  refine lv_iload hx hb dX8_choose_63 (lv_at hl 1 rfl) ?_
  obtain ⟨h_65, hf⟩ := oi_e hf
  refine va_iald hx hb hK hP 7 0 (wM_7 _ _ _ _ _) rfl h_65 dX8_choose_65 ?_
  refine lv_if_ne (tgt := 74) hx hb dX8_choose_66 (by decide) (fun c_66 => ?_) (fun c_66 => ?_)
  · rw [if_neg c_66] at hf
    refine lv_bipush (v := (-4)) hx hb dX8_choose_74 (by decide) ?_
    exact w_X8_choose_76 hm hR hK hD (-4) σ hf _ _ _ hP hS (lv_sub hl [] rfl)
  · rw [if_pos c_66] at hf
    refine lv_iload hx hb dX8_choose_69 (lv_at hl 1 rfl) ?_
    refine lv_goto (tgt := 76) hx hb dX8_choose_71 (by decide) ?_
    exact w_X8_choose_76 hm hR hK hD v4 σ hf _ _ _ hP hS (lv_sub hl [] rfl)
def p_X8_choose_97 (k14 : Int32 → Int32 → Int32 → SS → Option (Int32 × SS)) (v1 : Int32) (v2 : Int32) (t0 : Int32) (σ : SS) : Option (Int32 × SS) := k14 v1 v2 t0 σ
set_option maxHeartbeats 4000000 in
set_option maxRecDepth 100000 in
theorem w_X8_choose_97 {p : Program} {l : Launch} {e : Env} {R : Room} {s : State} {m : MethodId} {args : Array Value} {below : List Frame} {meth : Method} {c : Code} {D : va_G} {ad : Nat → Nat} {cI cJ cZ : ClassId} {res : Int32 × SS} (hm : mx p s m args meth c cX8_choose 6 (some .int) wsX8_choose RX8) (hR : 3 ≤ R.frames ∧ 73 ≤ R.locals) (hK : va_K D vwCl (tyw cI cJ cZ) s) (hD : ∀ σ, va_D (aM ad) (wM ad cI cJ cZ σ)) (k14 : Int32 → Int32 → Int32 → SS → Option (Int32 × SS)) (hk14 : ∀ (v1 : Int32) (v2 : Int32) (v3 : Int32) (σ : SS), k14 v1 v2 v3 σ = some res → ∀ (H : Heap) (locs : List Loc) (ls : Array Slot), va_P D vwCl (wM ad cI cJ cZ σ) H → va_S (aM ad) s.heap H locs → lv_has ls 6 [(0, .ref (ad 0)), (1, .int v1), (2, .int v2), (3, .int v3)] → W p l e R s m args below meth c H locs 0 0 (MQ below (va_Qi (fun (r : Int32) (u : SS) => (r, u) = res) (fun u t => va_P D vwCl (wM ad cI cJ cZ u) t.heap) (aM ad)) args s 0 0 (aM ad)) (F0 m 14 ls [])) (v1 : Int32) (v2 : Int32) (t0 : Int32) (σ : SS) (hf : p_X8_choose_97 k14 v1 v2 t0 σ = some res) (H : Heap) (locs : List Loc) (ls : Array Slot) (hP : va_P D vwCl (wM ad cI cJ cZ σ) H) (hS : va_S (aM ad) s.heap H locs) (hl : lv_has ls 6 [(0, .ref (ad 0)), (1, .int v1), (2, .int v2)]) : W p l e R s m args below meth c H locs 0 0 (MQ below (va_Qi (fun (r : Int32) (u : SS) => (r, u) = res) (fun u t => va_P D vwCl (wM ad cI cJ cZ u) t.heap) (aM ad)) args s 0 0 (aM ad)) (F0 m 97 ls [.int t0]) := by
  obtain ⟨hx, hb, hr, hml, hown, hts, hlk⟩ := id hm
  unfold p_X8_choose_97 at hf
  refine lv_istore_n (lv' := [(3, .int t0), (0, .ref (ad 0)), (1, .int v1), (2, .int v2)]) hx hb dX8_choose_97 rfl hl (by decide) rfl (fun ls hl => ?_)
  refine lv_goto (tgt := 14) hx hb dX8_choose_98 (by decide) ?_
  exact hk14 v1 v2 t0 σ hf _ _ _ hP hS (lv_sub hl [1, 2, 3, 0] rfl)
def p_X8_choose_77 (k14 : Int32 → Int32 → Int32 → SS → Option (Int32 × SS)) (v1 : Int32) (v2 : Int32) (v3 : Int32) (σ : SS) : Option (Int32 × SS) := oi v3 16 (if (σ.1 1 v3.toNatClampNeg) = 2 then p_X8_choose_97 k14 v1 v2 (-1) σ else oi v3 16 (p_X8_choose_97 k14 v1 v2 (σ.1 2 v3.toNatClampNeg) σ))
set_option maxHeartbeats 4000000 in
set_option maxRecDepth 100000 in
theorem w_X8_choose_77 {p : Program} {l : Launch} {e : Env} {R : Room} {s : State} {m : MethodId} {args : Array Value} {below : List Frame} {meth : Method} {c : Code} {D : va_G} {ad : Nat → Nat} {cI cJ cZ : ClassId} {res : Int32 × SS} (hm : mx p s m args meth c cX8_choose 6 (some .int) wsX8_choose RX8) (hR : 3 ≤ R.frames ∧ 73 ≤ R.locals) (hK : va_K D vwCl (tyw cI cJ cZ) s) (hD : ∀ σ, va_D (aM ad) (wM ad cI cJ cZ σ)) (k14 : Int32 → Int32 → Int32 → SS → Option (Int32 × SS)) (hk14 : ∀ (v1 : Int32) (v2 : Int32) (v3 : Int32) (σ : SS), k14 v1 v2 v3 σ = some res → ∀ (H : Heap) (locs : List Loc) (ls : Array Slot), va_P D vwCl (wM ad cI cJ cZ σ) H → va_S (aM ad) s.heap H locs → lv_has ls 6 [(0, .ref (ad 0)), (1, .int v1), (2, .int v2), (3, .int v3)] → W p l e R s m args below meth c H locs 0 0 (MQ below (va_Qi (fun (r : Int32) (u : SS) => (r, u) = res) (fun u t => va_P D vwCl (wM ad cI cJ cZ u) t.heap) (aM ad)) args s 0 0 (aM ad)) (F0 m 14 ls [])) (v1 : Int32) (v2 : Int32) (v3 : Int32) (σ : SS) (hf : p_X8_choose_77 k14 v1 v2 v3 σ = some res) (H : Heap) (locs : List Loc) (ls : Array Slot) (hP : va_P D vwCl (wM ad cI cJ cZ σ) H) (hS : va_S (aM ad) s.heap H locs) (hl : lv_has ls 6 [(0, .ref (ad 0)), (1, .int v1), (2, .int v2), (3, .int v3)]) : W p l e R s m args below meth c H locs 0 0 (MQ below (va_Qi (fun (r : Int32) (u : SS) => (r, u) = res) (fun u t => va_P D vwCl (wM ad cI cJ cZ u) t.heap) (aM ad)) args s 0 0 (aM ad)) (F0 m 77 ls []) := by
  obtain ⟨hx, hb, hr, hml, hown, hts, hlk⟩ := id hm
  unfold p_X8_choose_77 at hf
  refine lv_aload_n hx hb dX8_choose_77 rfl (lv_at hl 0 rfl) ?_
  refine va_get (D := D) (ci := 7) (v := .ref (ad 1)) (C := RX8) (T := TX8) (N := 50) hx hb hts in_X8_choose_X8 hown hK hP 0 (wM_0 _ _ _ _ _) rfl 1 (by decide) (hts (.fieldLink RX8 7 "CallGraphsModel" "kindOf" "[I") (List.mem_of_getElem? (i := 3) rfl)) (fun _ h9 => h9) (fM_0_1 _ _) dX8_choose_78 ?_
  refine lv_iload_n hx hb dX8_choose_81 rfl (lv_at hl 3 rfl) ?_
  obtain ⟨h_82, hf⟩ := oi_e hf
  refine va_iald hx hb hK hP 1 0 (wM_1 _ _ _ _ _) rfl h_82 dX8_choose_82 ?_
  refine lv_iconst (v := 2) hx hb dX8_choose_83 (by decide) ?_
  refine lv_icmp_ne (tgt := 91) hx hb dX8_choose_84 (by decide) (fun c_84 => ?_) (fun c_84 => ?_)
  · rw [if_neg c_84] at hf
    refine lv_aload_n hx hb dX8_choose_91 rfl (lv_at hl 0 rfl) ?_
    refine va_get (D := D) (ci := 7) (v := .ref (ad 2)) (C := RX8) (T := TX8) (N := 50) hx hb hts in_X8_choose_X8 hown hK hP 0 (wM_0 _ _ _ _ _) rfl 2 (by decide) (hts (.fieldLink RX8 13 "CallGraphsModel" "superOf" "[I") (List.mem_of_getElem? (i := 4) rfl)) (fun _ h9 => h9) (fM_0_2 _ _) dX8_choose_92 ?_
    refine lv_iload_n hx hb dX8_choose_95 rfl (lv_at hl 3 rfl) ?_
    obtain ⟨h_96, hf⟩ := oi_e hf
    refine va_iald hx hb hK hP 2 0 (wM_2 _ _ _ _ _) rfl h_96 dX8_choose_96 ?_
    exact w_X8_choose_97 hm hR hK hD k14 hk14 v1 v2 (σ.1 2 v3.toNatClampNeg) σ hf _ _ _ hP hS (lv_sub hl [0, 1, 2] rfl)
  · rw [if_pos c_84] at hf
    refine lv_iconst (v := (-1)) hx hb dX8_choose_87 (by decide) ?_
    refine lv_goto (tgt := 97) hx hb dX8_choose_88 (by decide) ?_
    exact w_X8_choose_97 hm hR hK hD k14 hk14 v1 v2 (-1) σ hf _ _ _ hP hS (lv_sub hl [0, 1, 2] rfl)
def p_X8_choose_164 (k119 : Int32 → Int32 → SS → Option (Int32 × SS)) (v4 : Int32) (v5 : Int32) (σ : SS) : Option (Int32 × SS) := k119 v4 (v5 + 1) σ
set_option maxHeartbeats 4000000 in
set_option maxRecDepth 100000 in
theorem w_X8_choose_164 {p : Program} {l : Launch} {e : Env} {R : Room} {s : State} {m : MethodId} {args : Array Value} {below : List Frame} {meth : Method} {c : Code} {D : va_G} {ad : Nat → Nat} {cI cJ cZ : ClassId} {res : Int32 × SS} (hm : mx p s m args meth c cX8_choose 6 (some .int) wsX8_choose RX8) (hR : 3 ≤ R.frames ∧ 73 ≤ R.locals) (hK : va_K D vwCl (tyw cI cJ cZ) s) (hD : ∀ σ, va_D (aM ad) (wM ad cI cJ cZ σ)) (k119 : Int32 → Int32 → SS → Option (Int32 × SS)) (hk119 : ∀ (v4 : Int32) (v5 : Int32) (σ : SS), k119 v4 v5 σ = some res → ∀ (H : Heap) (locs : List Loc) (ls : Array Slot), va_P D vwCl (wM ad cI cJ cZ σ) H → va_S (aM ad) s.heap H locs → lv_has ls 6 [(0, .ref (ad 0)), (4, .int v4), (5, .int v5)] → W p l e R s m args below meth c H locs 0 0 (MQ below (va_Qi (fun (r : Int32) (u : SS) => (r, u) = res) (fun u t => va_P D vwCl (wM ad cI cJ cZ u) t.heap) (aM ad)) args s 0 0 (aM ad)) (F0 m 119 ls [])) (v4 : Int32) (v5 : Int32) (σ : SS) (hf : p_X8_choose_164 k119 v4 v5 σ = some res) (H : Heap) (locs : List Loc) (ls : Array Slot) (hP : va_P D vwCl (wM ad cI cJ cZ σ) H) (hS : va_S (aM ad) s.heap H locs) (hl : lv_has ls 6 [(0, .ref (ad 0)), (4, .int v4), (5, .int v5)]) : W p l e R s m args below meth c H locs 0 0 (MQ below (va_Qi (fun (r : Int32) (u : SS) => (r, u) = res) (fun u t => va_P D vwCl (wM ad cI cJ cZ u) t.heap) (aM ad)) args s 0 0 (aM ad)) (F0 m 164 ls []) := by
  obtain ⟨hx, hb, hr, hml, hown, hts, hlk⟩ := id hm
  unfold p_X8_choose_164 at hf
  refine lv_iinc (v := (v5 + 1)) (lv' := [(5, .int (v5 + 1)), (0, .ref (ad 0)), (4, .int v4)]) hx hb dX8_choose_164 hl (k := 2) rfl rfl (by decide) rfl (fun ls hl => ?_)
  refine lv_goto (tgt := 119) hx hb dX8_choose_167 (by decide) ?_
  exact hk119 v4 (v5 + 1) σ hf _ _ _ hP hS (lv_sub hl [1, 2, 0] rfl)
def p_X8_choose_162 (k119 : Int32 → Int32 → SS → Option (Int32 × SS)) (v5 : Int32) (t0 : Int32) (σ : SS) : Option (Int32 × SS) := p_X8_choose_164 k119 t0 v5 σ
set_option maxHeartbeats 4000000 in
set_option maxRecDepth 100000 in
theorem w_X8_choose_162 {p : Program} {l : Launch} {e : Env} {R : Room} {s : State} {m : MethodId} {args : Array Value} {below : List Frame} {meth : Method} {c : Code} {D : va_G} {ad : Nat → Nat} {cI cJ cZ : ClassId} {res : Int32 × SS} (hm : mx p s m args meth c cX8_choose 6 (some .int) wsX8_choose RX8) (hR : 3 ≤ R.frames ∧ 73 ≤ R.locals) (hK : va_K D vwCl (tyw cI cJ cZ) s) (hD : ∀ σ, va_D (aM ad) (wM ad cI cJ cZ σ)) (k119 : Int32 → Int32 → SS → Option (Int32 × SS)) (hk119 : ∀ (v4 : Int32) (v5 : Int32) (σ : SS), k119 v4 v5 σ = some res → ∀ (H : Heap) (locs : List Loc) (ls : Array Slot), va_P D vwCl (wM ad cI cJ cZ σ) H → va_S (aM ad) s.heap H locs → lv_has ls 6 [(0, .ref (ad 0)), (4, .int v4), (5, .int v5)] → W p l e R s m args below meth c H locs 0 0 (MQ below (va_Qi (fun (r : Int32) (u : SS) => (r, u) = res) (fun u t => va_P D vwCl (wM ad cI cJ cZ u) t.heap) (aM ad)) args s 0 0 (aM ad)) (F0 m 119 ls [])) (v5 : Int32) (t0 : Int32) (σ : SS) (hf : p_X8_choose_162 k119 v5 t0 σ = some res) (H : Heap) (locs : List Loc) (ls : Array Slot) (hP : va_P D vwCl (wM ad cI cJ cZ σ) H) (hS : va_S (aM ad) s.heap H locs) (hl : lv_has ls 6 [(0, .ref (ad 0)), (5, .int v5)]) : W p l e R s m args below meth c H locs 0 0 (MQ below (va_Qi (fun (r : Int32) (u : SS) => (r, u) = res) (fun u t => va_P D vwCl (wM ad cI cJ cZ u) t.heap) (aM ad)) args s 0 0 (aM ad)) (F0 m 162 ls [.int t0]) := by
  obtain ⟨hx, hb, hr, hml, hown, hts, hlk⟩ := id hm
  unfold p_X8_choose_162 at hf
  refine lv_istore (lv' := [(4, .int t0), (0, .ref (ad 0)), (5, .int v5)]) hx hb dX8_choose_162 hl (by decide) rfl (fun ls hl => ?_)
  exact w_X8_choose_164 hm hR hK hD k119 hk119 t0 v5 σ hf _ _ _ hP hS (lv_sub hl [1, 0, 2] rfl)
def p_X8_choose_119 : Nat → Int32 → Int32 → SS → Option (Int32 × SS)
  | 0, _, _, _ => none
  | n + 1, v4, v5, σ => let k119 := p_X8_choose_119 n; if (σ.1 0 5) ≤ v5 then some (v4, σ) else oi v5 48 (if (σ.1 22 v5.toNatClampNeg) = 0 then p_X8_choose_164 k119 v4 v5 σ else oi v5 48 (if (σ.1 7 v5.toNatClampNeg) = 0 then if v4 = (-4) then p_X8_choose_162 k119 v5 v5 σ else p_X8_choose_162 k119 v5 (-5) σ else p_X8_choose_164 k119 v4 v5 σ))
set_option maxHeartbeats 4000000 in
set_option maxRecDepth 100000 in
theorem w_X8_choose_119 {p : Program} {l : Launch} {e : Env} {R : Room} {s : State} {m : MethodId} {args : Array Value} {below : List Frame} {meth : Method} {c : Code} {D : va_G} {ad : Nat → Nat} {cI cJ cZ : ClassId} {res : Int32 × SS} (hm : mx p s m args meth c cX8_choose 6 (some .int) wsX8_choose RX8) (hR : 3 ≤ R.frames ∧ 73 ≤ R.locals) (hK : va_K D vwCl (tyw cI cJ cZ) s) (hD : ∀ σ, va_D (aM ad) (wM ad cI cJ cZ σ)) : ∀ (n : Nat) (v4 : Int32) (v5 : Int32) (σ : SS), p_X8_choose_119 n v4 v5 σ = some res → ∀ (H : Heap) (locs : List Loc) (ls : Array Slot), va_P D vwCl (wM ad cI cJ cZ σ) H → va_S (aM ad) s.heap H locs → lv_has ls 6 [(0, .ref (ad 0)), (4, .int v4), (5, .int v5)] → W p l e R s m args below meth c H locs 0 0 (MQ below (va_Qi (fun (r : Int32) (u : SS) => (r, u) = res) (fun u t => va_P D vwCl (wM ad cI cJ cZ u) t.heap) (aM ad)) args s 0 0 (aM ad)) (F0 m 119 ls []) := by
  obtain ⟨hx, hb, hr, hml, hown, hts, hlk⟩ := id hm
  intro n
  induction n with
  | zero =>
    intro _ _ _ hf
    cases hf
  | succ n hk119 =>
    intro v4 v5 σ hf H locs ls hP hS hl
    rw [p_X8_choose_119] at hf
    try dsimp only at hf
    refine lv_iload hx hb dX8_choose_119 (lv_at hl 2 rfl) ?_
    refine lv_aload_n hx hb dX8_choose_121 rfl (lv_at hl 0 rfl) ?_
    refine va_get (D := D) (ci := 7) (v := .int (σ.1 0 5)) (C := RX8) (T := TX8) (N := 50) hx hb hts in_X8_choose_X8 hown hK hP 0 (wM_0 _ _ _ _ _) rfl 5 (by decide) (hts (.fieldLink RX8 131 "CallGraphsModel" "members" "I") (List.mem_of_getElem? (i := 5) rfl)) (fun _ h9 => h9) (fM_0_5 _ _) dX8_choose_122 ?_
    refine lv_icmp_ge (tgt := 170) hx hb dX8_choose_125 (by decide) (fun c_125 => ?_) (fun c_125 => ?_)
    · rw [if_pos c_125] at hf
      refine lv_iload hx hb dX8_choose_170 (lv_at hl 1 rfl) ?_
      exact rt_i (wd := wM ad cI cJ cZ) hx hb hr hlk (Option.some.inj hf) hP hS dX8_choose_172
    · rw [if_neg c_125] at hf
      refine lv_aload_n hx hb dX8_choose_128 rfl (lv_at hl 0 rfl) ?_
      refine va_get (D := D) (ci := 7) (v := .ref (ad 22)) (C := RX8) (T := TX8) (N := 50) hx hb hts in_X8_choose_X8 hown hK hP 0 (wM_0 _ _ _ _ _) rfl 27 (by decide) (hts (.fieldLink RX8 74 "CallGraphsModel" "left" "[Z") (List.mem_of_getElem? (i := 6) rfl)) (fun _ h9 => h9) (fM_0_27 _ _) dX8_choose_129 ?_
      refine lv_iload hx hb dX8_choose_132 (lv_at hl 2 rfl) ?_
      obtain ⟨h_134, hf⟩ := oi_e hf
      refine va_zald hx hb hK hP 22 2 (wM_22 _ _ _ _ _) rfl h_134 dX8_choose_134 ?_
      refine lv_if_eq (tgt := 164) hx hb dX8_choose_135 (by decide) (fun c_135 => ?_) (fun c_135 => ?_)
      · rw [if_pos c_135] at hf
        exact w_X8_choose_164 hm hR hK hD (p_X8_choose_119 n) hk119 v4 v5 σ hf _ _ _ hP hS (lv_sub hl [0, 1, 2] rfl)
      · rw [if_neg c_135] at hf
        refine lv_aload_n hx hb dX8_choose_138 rfl (lv_at hl 0 rfl) ?_
        refine va_get (D := D) (ci := 7) (v := .ref (ad 7)) (C := RX8) (T := TX8) (N := 50) hx hb hts in_X8_choose_X8 hown hK hP 0 (wM_0 _ _ _ _ _) rfl 8 (by decide) (hts (.fieldLink RX8 28 "CallGraphsModel" "sortOf" "[I") (List.mem_of_getElem? (i := 1) rfl)) (fun _ h9 => h9) (fM_0_8 _ _) dX8_choose_139 ?_
        refine lv_iload hx hb dX8_choose_142 (lv_at hl 2 rfl) ?_
        obtain ⟨h_144, hf⟩ := oi_e hf
        refine va_iald hx hb hK hP 7 0 (wM_7 _ _ _ _ _) rfl h_144 dX8_choose_144 ?_
        refine lv_if_ne (tgt := 164) hx hb dX8_choose_145 (by decide) (fun c_145 => ?_) (fun c_145 => ?_)
        · rw [if_neg c_145] at hf
          exact w_X8_choose_164 hm hR hK hD (p_X8_choose_119 n) hk119 v4 v5 σ hf _ _ _ hP hS (lv_sub hl [0, 1, 2] rfl)
        · rw [if_pos c_145] at hf
          refine lv_iload hx hb dX8_choose_148 (lv_at hl 1 rfl) ?_
          refine lv_bipush (v := (-4)) hx hb dX8_choose_150 (by decide) ?_
          refine lv_icmp_ne (tgt := 160) hx hb dX8_choose_152 (by decide) (fun c_152 => ?_) (fun c_152 => ?_)
          · rw [if_neg c_152] at hf
            refine lv_bipush (v := (-5)) hx hb dX8_choose_160 (by decide) ?_
            exact w_X8_choose_162 hm hR hK hD (p_X8_choose_119 n) hk119 v5 (-5) σ hf _ _ _ hP hS (lv_sub hl [0, 2] rfl)
          · rw [if_pos c_152] at hf
            refine lv_iload hx hb dX8_choose_155 (lv_at hl 2 rfl) ?_
            refine lv_goto (tgt := 162) hx hb dX8_choose_157 (by decide) ?_
            exact w_X8_choose_162 hm hR hK hD (p_X8_choose_119 n) hk119 v5 v5 σ hf _ _ _ hP hS (lv_sub hl [0, 2] rfl)
def p_X8_choose_14 : Nat → Int32 → Int32 → Int32 → SS → Option (Int32 × SS)
  | 0, _, _, _, _ => none
  | n + 1, v1, v2, v3, σ => let k14 := p_X8_choose_14 n; if v3 = (-1) then oi v2 48 (oc (p_X8_findLeft_0 v1 (σ.1 6 v2.toNatClampNeg) σ) (fun r_109 => p_X8_choose_119 100000 (-4) 0 r_109)) else oi v2 48 (oc (p_X8_ownOf_0 σ v3 (σ.1 6 v2.toNatClampNeg)) (fun r_27 => if r_27 = (-1) then p_X8_choose_77 k14 v1 v2 v3 σ else oi r_27 48 (if (σ.1 7 r_27.toNatClampNeg) = 0 then p_X8_choose_59 r_27 σ else oi r_27 48 (if (σ.1 7 r_27.toNatClampNeg) = 1 then p_X8_choose_59 r_27 σ else p_X8_choose_77 k14 v1 v2 v3 σ))))
set_option maxHeartbeats 4000000 in
set_option maxRecDepth 100000 in
theorem w_X8_choose_14 {p : Program} {l : Launch} {e : Env} {R : Room} {s : State} {m : MethodId} {args : Array Value} {below : List Frame} {meth : Method} {c : Code} {D : va_G} {ad : Nat → Nat} {cI cJ cZ : ClassId} {res : Int32 × SS} (hm : mx p s m args meth c cX8_choose 6 (some .int) wsX8_choose RX8) (hR : 3 ≤ R.frames ∧ 73 ≤ R.locals) (hK : va_K D vwCl (tyw cI cJ cZ) s) (hD : ∀ σ, va_D (aM ad) (wM ad cI cJ cZ σ)) : ∀ (n : Nat) (v1 : Int32) (v2 : Int32) (v3 : Int32) (σ : SS), p_X8_choose_14 n v1 v2 v3 σ = some res → ∀ (H : Heap) (locs : List Loc) (ls : Array Slot), va_P D vwCl (wM ad cI cJ cZ σ) H → va_S (aM ad) s.heap H locs → lv_has ls 6 [(0, .ref (ad 0)), (1, .int v1), (2, .int v2), (3, .int v3)] → W p l e R s m args below meth c H locs 0 0 (MQ below (va_Qi (fun (r : Int32) (u : SS) => (r, u) = res) (fun u t => va_P D vwCl (wM ad cI cJ cZ u) t.heap) (aM ad)) args s 0 0 (aM ad)) (F0 m 14 ls []) := by
  obtain ⟨hx, hb, hr, hml, hown, hts, hlk⟩ := id hm
  intro n
  induction n with
  | zero =>
    intro _ _ _ _ hf
    cases hf
  | succ n hk14 =>
    intro v1 v2 v3 σ hf H locs ls hP hS hl
    rw [p_X8_choose_14] at hf
    try dsimp only at hf
    refine lv_iload_n hx hb dX8_choose_14 rfl (lv_at hl 3 rfl) ?_
    refine lv_iconst (v := (-1)) hx hb dX8_choose_15 (by decide) ?_
    refine lv_icmp_eq (tgt := 101) hx hb dX8_choose_16 (by decide) (fun c_16 => ?_) (fun c_16 => ?_)
    · rw [if_pos c_16] at hf
      refine lv_aload_n hx hb dX8_choose_101 rfl (lv_at hl 0 rfl) ?_
      refine lv_iload_n hx hb dX8_choose_102 rfl (lv_at hl 1 rfl) ?_
      refine lv_aload_n hx hb dX8_choose_103 rfl (lv_at hl 0 rfl) ?_
      refine va_get (D := D) (ci := 7) (v := .ref (ad 6)) (C := RX8) (T := TX8) (N := 50) hx hb hts in_X8_choose_X8 hown hK hP 0 (wM_0 _ _ _ _ _) rfl 7 (by decide) (hts (.fieldLink RX8 25 "CallGraphsModel" "nameOf" "[I") (List.mem_of_getElem? (i := 2) rfl)) (fun _ h9 => h9) (fM_0_7 _ _) dX8_choose_104 ?_
      refine lv_iload_n hx hb dX8_choose_107 rfl (lv_at hl 2 rfl) ?_
      obtain ⟨h_108, hf⟩ := oi_e hf
      refine va_iald hx hb hK hP 6 0 (wM_6 _ _ _ _ _) rfl h_108 dX8_choose_108 ?_
      obtain ⟨r_109, hg_109, hf⟩ := oc_e hf
      refine mV_wv (wd := wM ad cI cJ cZ) (σ := σ) (As := [.int v1, .int (σ.1 6 v2.toNatClampNeg)]) (rest := []) ⟨hx, hb, hml, hown, hts⟩ hK hP hD hS (c_X8_findLeft l D ad cI cJ cZ σ v1 (σ.1 6 v2.toNatClampNeg) hg_109) (cwV 2 hts gX8_choose_X8_findLeft rfl rfl rfl hd_X8_findLeft ⟨Nat.le_trans (Nat.le_of_ble_eq_true rfl) hR.1, Nat.le_trans (Nat.le_of_ble_eq_true rfl) hR.2⟩) rfl (wM_0 _ _ _ _ _) rfl hl.1 rfl (Nat.le_of_ble_eq_true rfl) dX8_choose_109 (fun H locs hP hS => ?_)
      refine lv_bipush (v := (-4)) hx hb dX8_choose_112 (by decide) ?_
      refine lv_istore (lv' := [(4, .int (-4)), (0, .ref (ad 0)), (1, .int v1), (2, .int v2), (3, .int v3)]) hx hb dX8_choose_114 hl (by decide) rfl (fun ls hl => ?_)
      refine lv_iconst (v := 0) hx hb dX8_choose_116 (by decide) ?_
      refine lv_istore (lv' := [(5, .int 0), (4, .int (-4)), (0, .ref (ad 0)), (1, .int v1), (2, .int v2), (3, .int v3)]) hx hb dX8_choose_117 hl (by decide) rfl (fun ls hl => ?_)
      exact w_X8_choose_119 hm hR hK hD 100000 (-4) 0 r_109 hf _ _ _ hP hS (lv_sub hl [2, 1, 0] rfl)
    · rw [if_neg c_16] at hf
      refine lv_aload_n hx hb dX8_choose_19 rfl (lv_at hl 0 rfl) ?_
      refine lv_iload_n hx hb dX8_choose_20 rfl (lv_at hl 3 rfl) ?_
      refine lv_aload_n hx hb dX8_choose_21 rfl (lv_at hl 0 rfl) ?_
      refine va_get (D := D) (ci := 7) (v := .ref (ad 6)) (C := RX8) (T := TX8) (N := 50) hx hb hts in_X8_choose_X8 hown hK hP 0 (wM_0 _ _ _ _ _) rfl 7 (by decide) (hts (.fieldLink RX8 25 "CallGraphsModel" "nameOf" "[I") (List.mem_of_getElem? (i := 2) rfl)) (fun _ h9 => h9) (fM_0_7 _ _) dX8_choose_22 ?_
      refine lv_iload_n hx hb dX8_choose_25 rfl (lv_at hl 2 rfl) ?_
      obtain ⟨h_26, hf⟩ := oi_e hf
      refine va_iald hx hb hK hP 6 0 (wM_6 _ _ _ _ _) rfl h_26 dX8_choose_26 ?_
      obtain ⟨r_27, hg_27, hf⟩ := oc_e hf
      refine mV_ri (wd := wM ad cI cJ cZ) (σ := σ) (As := [.int v3, .int (σ.1 6 v2.toNatClampNeg)]) (rest := []) ⟨hx, hb, hml, hown, hts⟩ hK hP hD hS (c_X8_ownOf l D ad cI cJ cZ σ v3 (σ.1 6 v2.toNatClampNeg) hg_27) (cwV 2 hts gX8_choose_X8_ownOf rfl rfl rfl hd_X8_ownOf ⟨Nat.le_trans (Nat.le_of_ble_eq_true rfl) hR.1, Nat.le_trans (Nat.le_of_ble_eq_true rfl) hR.2⟩) rfl (wM_0 _ _ _ _ _) rfl hl.1 rfl (Nat.le_of_ble_eq_true rfl) dX8_choose_27 (fun H locs hP hS => ?_)
      refine lv_istore (lv' := [(4, .int r_27), (0, .ref (ad 0)), (1, .int v1), (2, .int v2), (3, .int v3)]) hx hb dX8_choose_30 hl (by decide) rfl (fun ls hl => ?_)
      refine lv_iload hx hb dX8_choose_32 (lv_at hl 0 rfl) ?_
      refine lv_iconst (v := (-1)) hx hb dX8_choose_34 (by decide) ?_
      refine lv_icmp_eq (tgt := 77) hx hb dX8_choose_35 (by decide) (fun c_35 => ?_) (fun c_35 => ?_)
      · rw [if_pos c_35] at hf
        exact w_X8_choose_77 hm hR hK hD (p_X8_choose_14 n) hk14 v1 v2 v3 σ hf _ _ _ hP hS (lv_sub hl [1, 2, 3, 4] rfl)
      · rw [if_neg c_35] at hf
        refine lv_aload_n hx hb dX8_choose_38 rfl (lv_at hl 1 rfl) ?_
        refine va_get (D := D) (ci := 7) (v := .ref (ad 7)) (C := RX8) (T := TX8) (N := 50) hx hb hts in_X8_choose_X8 hown hK hP 0 (wM_0 _ _ _ _ _) rfl 8 (by decide) (hts (.fieldLink RX8 28 "CallGraphsModel" "sortOf" "[I") (List.mem_of_getElem? (i := 1) rfl)) (fun _ h9 => h9) (fM_0_8 _ _) dX8_choose_39 ?_
        refine lv_iload hx hb dX8_choose_42 (lv_at hl 0 rfl) ?_
        obtain ⟨h_44, hf⟩ := oi_e hf
        refine va_iald hx hb hK hP 7 0 (wM_7 _ _ _ _ _) rfl h_44 dX8_choose_44 ?_
        refine lv_if_eq (tgt := 59) hx hb dX8_choose_45 (by decide) (fun c_45 => ?_) (fun c_45 => ?_)
        · rw [if_pos c_45] at hf
          exact w_X8_choose_59 hm hR hK hD r_27 σ hf _ _ _ hP hS (lv_sub hl [1, 0] rfl)
        · rw [if_neg c_45] at hf
          refine lv_aload_n hx hb dX8_choose_48 rfl (lv_at hl 1 rfl) ?_
          refine va_get (D := D) (ci := 7) (v := .ref (ad 7)) (C := RX8) (T := TX8) (N := 50) hx hb hts in_X8_choose_X8 hown hK hP 0 (wM_0 _ _ _ _ _) rfl 8 (by decide) (hts (.fieldLink RX8 28 "CallGraphsModel" "sortOf" "[I") (List.mem_of_getElem? (i := 1) rfl)) (fun _ h9 => h9) (fM_0_8 _ _) dX8_choose_49 ?_
          refine lv_iload hx hb dX8_choose_52 (lv_at hl 0 rfl) ?_
          obtain ⟨h_54, hf⟩ := oi_e hf
          refine va_iald hx hb hK hP 7 0 (wM_7 _ _ _ _ _) rfl h_54 dX8_choose_54 ?_
          refine lv_iconst (v := 1) hx hb dX8_choose_55 (by decide) ?_
          refine lv_icmp_ne (tgt := 77) hx hb dX8_choose_56 (by decide) (fun c_56 => ?_) (fun c_56 => ?_)
          · rw [if_neg c_56] at hf
            exact w_X8_choose_77 hm hR hK hD (p_X8_choose_14 n) hk14 v1 v2 v3 σ hf _ _ _ hP hS (lv_sub hl [1, 2, 3, 4] rfl)
          · rw [if_pos c_56] at hf
            exact w_X8_choose_59 hm hR hK hD r_27 σ hf _ _ _ hP hS (lv_sub hl [1, 0] rfl)
def p_X8_choose_0 (v1 : Int32) (v2 : Int32) (σ : SS) : Option (Int32 × SS) := oi v2 48 (if (σ.1 7 v2.toNatClampNeg) = 3 then some (v2, σ) else p_X8_choose_14 100000 v1 v2 v1 σ)
set_option maxHeartbeats 4000000 in
set_option maxRecDepth 100000 in
theorem w_X8_choose_0 {p : Program} {l : Launch} {e : Env} {R : Room} {s : State} {m : MethodId} {args : Array Value} {below : List Frame} {meth : Method} {c : Code} {D : va_G} {ad : Nat → Nat} {cI cJ cZ : ClassId} {res : Int32 × SS} (hm : mx p s m args meth c cX8_choose 6 (some .int) wsX8_choose RX8) (hR : 3 ≤ R.frames ∧ 73 ≤ R.locals) (hK : va_K D vwCl (tyw cI cJ cZ) s) (hD : ∀ σ, va_D (aM ad) (wM ad cI cJ cZ σ)) (v1 : Int32) (v2 : Int32) (σ : SS) (hf : p_X8_choose_0 v1 v2 σ = some res) (H : Heap) (locs : List Loc) (ls : Array Slot) (hP : va_P D vwCl (wM ad cI cJ cZ σ) H) (hS : va_S (aM ad) s.heap H locs) (hl : lv_has ls 6 [(0, .ref (ad 0)), (1, .int v1), (2, .int v2)]) : W p l e R s m args below meth c H locs 0 0 (MQ below (va_Qi (fun (r : Int32) (u : SS) => (r, u) = res) (fun u t => va_P D vwCl (wM ad cI cJ cZ u) t.heap) (aM ad)) args s 0 0 (aM ad)) (F0 m 0 ls []) := by
  obtain ⟨hx, hb, hr, hml, hown, hts, hlk⟩ := id hm
  unfold p_X8_choose_0 at hf
  refine lv_aload_n hx hb dX8_choose_0 rfl (lv_at hl 0 rfl) ?_
  refine va_get (D := D) (ci := 7) (v := .ref (ad 7)) (C := RX8) (T := TX8) (N := 50) hx hb hts in_X8_choose_X8 hown hK hP 0 (wM_0 _ _ _ _ _) rfl 8 (by decide) (hts (.fieldLink RX8 28 "CallGraphsModel" "sortOf" "[I") (List.mem_of_getElem? (i := 1) rfl)) (fun _ h9 => h9) (fM_0_8 _ _) dX8_choose_1 ?_
  refine lv_iload_n hx hb dX8_choose_4 rfl (lv_at hl 2 rfl) ?_
  obtain ⟨h_5, hf⟩ := oi_e hf
  refine va_iald hx hb hK hP 7 0 (wM_7 _ _ _ _ _) rfl h_5 dX8_choose_5 ?_
  refine lv_iconst (v := 3) hx hb dX8_choose_6 (by decide) ?_
  refine lv_icmp_ne (tgt := 12) hx hb dX8_choose_7 (by decide) (fun c_7 => ?_) (fun c_7 => ?_)
  · rw [if_neg c_7] at hf
    refine lv_iload_n hx hb dX8_choose_12 rfl (lv_at hl 1 rfl) ?_
    refine lv_istore_n (lv' := [(3, .int v1), (0, .ref (ad 0)), (1, .int v1), (2, .int v2)]) hx hb dX8_choose_13 rfl hl (by decide) rfl (fun ls hl => ?_)
    exact w_X8_choose_14 hm hR hK hD 100000 v1 v2 v1 σ hf _ _ _ hP hS (lv_sub hl [1, 2, 3, 0] rfl)
  · rw [if_pos c_7] at hf
    refine lv_iload_n hx hb dX8_choose_10 rfl (lv_at hl 2 rfl) ?_
    exact rt_i (wd := wM ad cI cJ cZ) hx hb hr hlk (Option.some.inj hf) hP hS dX8_choose_11
theorem hd_X8_choose : yX8_choose.cls = RX8 ∧ yX8_choose.cls ≠ "java/lang/invoke/MethodHandle" ∧ yX8_choose.cls ≠ "java/lang/invoke/VarHandle" ∧ (parseMethodDescriptor yX8_choose.desc).map (fun d => d.parameters.length) = some 2 := by decide +kernel
set_option maxHeartbeats 4000000 in
set_option maxRecDepth 100000 in
theorem c_X8_choose (l : Launch) (D : va_G) (ad : Nat → Nat) (cI cJ cZ : ClassId) (σ : SS) (v1 : Int32) (v2 : Int32) {res : Int32 × SS} (hf : p_X8_choose_0 v1 v2 σ = some res) : Met l yX8_choose wsX8_choose ({ frames := 3, cells := 0, slots := 0, locals := 73 } : Room) (PW D (tyw cI cJ cZ) (wM ad cI cJ cZ σ) [.ref (ad 0), .int v1, .int v2]) (va_Qi (fun (r : Int32) (u : SS) => (r, u) = res) (fun u t => va_P D vwCl (wM ad cI cJ cZ u) t.heap) (aM ad)) 0 0 (aM ad) := by
  refine Met.ofW (cc := cX8_choose) (maxL := 6) (ret := (some .int)) (by decide) rfl ?_
  intro p e s m args below meth c s₁ B hml hv
  obtain ⟨rfl, hP, hK, hD0⟩ := hv
  have hD : ∀ σ, va_D (aM ad) (wM ad cI cJ cZ σ) := fun σ => wd_D hD0 (wM_map _ _ _ _ _) (wM_map _ _ _ _ _)
  have hm : mx p s m _ meth c cX8_choose 6 (some .int) wsX8_choose RX8 := ⟨B.exec, B.bytes, B.returns, hml, findClass_of_methodNamed B.named, atoms_spec (ws := wsX8_choose) B.pre, B.notSynchronized⟩
  have hl := lv_entry ([.ref (ad 0), .int v1, .int v2]) (n := 6) (Nat.le_of_ble_eq_true rfl)
  rw [lg_entry_eq]
  generalize (lg_sl ([.ref (ad 0), .int v1, .int v2]) ++ List.replicate (6 - (lg_sl ([.ref (ad 0), .int v1, .int v2])).length) Slot.unset).toArray = ls at hl ⊢
  exact w_X8_choose_0 hm ⟨Nat.le_refl _, Nat.le_refl _⟩ hK hD v1 v2 σ hf _ _ _ hP va_S.rf hl
/-! CallGraphsModel.chosenOf(III)I -/
theorem in_X8_chosenOf_X8 : ∀ w ∈ u_ws RX8 TX8 50, w ∈ wsX8_chosenOf := fun w h => List.mem_cons_of_mem _ (List.mem_append_right _ h)
def p_X8_chosenOf_42 (t0 : Int32) (σ : SS) : Option (Int32 × SS) := some (t0, σ)
set_option maxHeartbeats 4000000 in
set_option maxRecDepth 100000 in
theorem w_X8_chosenOf_42 {p : Program} {l : Launch} {e : Env} {R : Room} {s : State} {m : MethodId} {args : Array Value} {below : List Frame} {meth : Method} {c : Code} {D : va_G} {ad : Nat → Nat} {cI cJ cZ : ClassId} {res : Int32 × SS} (hm : mx p s m args meth c cX8_chosenOf 5 (some .int) wsX8_chosenOf RX8) (hR : 4 ≤ R.frames ∧ 100 ≤ R.locals) (hK : va_K D vwCl (tyw cI cJ cZ) s) (hD : ∀ σ, va_D (aM ad) (wM ad cI cJ cZ σ)) (t0 : Int32) (σ : SS) (hf : p_X8_chosenOf_42 t0 σ = some res) (H : Heap) (locs : List Loc) (ls : Array Slot) (hP : va_P D vwCl (wM ad cI cJ cZ σ) H) (hS : va_S (aM ad) s.heap H locs) (hl : lv_has ls 5 []) : W p l e R s m args below meth c H locs 0 0 (MQ below (va_Qi (fun (r : Int32) (u : SS) => (r, u) = res) (fun u t => va_P D vwCl (wM ad cI cJ cZ u) t.heap) (aM ad)) args s 0 0 (aM ad)) (F0 m 42 ls [.int t0]) := by
  obtain ⟨hx, hb, hr, hml, hown, hts, hlk⟩ := id hm
  unfold p_X8_chosenOf_42 at hf
  exact rt_i (wd := wM ad cI cJ cZ) hx hb hr hlk (Option.some.inj hf) hP hS dX8_chosenOf_42
def p_X8_chosenOf_0 (v1 : Int32) (v2 : Int32) (v3 : Int32) (σ : SS) : Option (Int32 × SS) := oc (p_X8_find_0 v2 v3 σ) (fun r_3 => if r_3.1 = (-1) then p_X8_chosenOf_42 (-2) r_3.2 else oi r_3.1 48 (if (r_3.2.1 7 r_3.1.toNatClampNeg) = 2 then p_X8_chosenOf_42 (-3) r_3.2 else oc (p_X8_choose_0 v1 r_3.1 r_3.2) (fun r_39 => p_X8_chosenOf_42 r_39.1 r_39.2)))
set_option maxHeartbeats 4000000 in
set_option maxRecDepth 100000 in
theorem w_X8_chosenOf_0 {p : Program} {l : Launch} {e : Env} {R : Room} {s : State} {m : MethodId} {args : Array Value} {below : List Frame} {meth : Method} {c : Code} {D : va_G} {ad : Nat → Nat} {cI cJ cZ : ClassId} {res : Int32 × SS} (hm : mx p s m args meth c cX8_chosenOf 5 (some .int) wsX8_chosenOf RX8) (hR : 4 ≤ R.frames ∧ 100 ≤ R.locals) (hK : va_K D vwCl (tyw cI cJ cZ) s) (hD : ∀ σ, va_D (aM ad) (wM ad cI cJ cZ σ)) (v1 : Int32) (v2 : Int32) (v3 : Int32) (σ : SS) (hf : p_X8_chosenOf_0 v1 v2 v3 σ = some res) (H : Heap) (locs : List Loc) (ls : Array Slot) (hP : va_P D vwCl (wM ad cI cJ cZ σ) H) (hS : va_S (aM ad) s.heap H locs) (hl : lv_has ls 5 [(0, .ref (ad 0)), (1, .int v1), (2, .int v2), (3, .int v3)]) : W p l e R s m args below meth c H locs 0 0 (MQ below (va_Qi (fun (r : Int32) (u : SS) => (r, u) = res) (fun u t => va_P D vwCl (wM ad cI cJ cZ u) t.heap) (aM ad)) args s 0 0 (aM ad)) (F0 m 0 ls []) := by
  obtain ⟨hx, hb, hr, hml, hown, hts, hlk⟩ := id hm
  unfold p_X8_chosenOf_0 at hf
  refine lv_aload_n hx hb dX8_chosenOf_0 rfl (lv_at hl 0 rfl) ?_
  refine lv_iload_n hx hb dX8_chosenOf_1 rfl (lv_at hl 2 rfl) ?_
  refine lv_iload_n hx hb dX8_chosenOf_2 rfl (lv_at hl 3 rfl) ?_
  obtain ⟨r_3, hg_3, hf⟩ := oc_e hf
  refine mV_wi (wd := wM ad cI cJ cZ) (σ := σ) (As := [.int v2, .int v3]) (rest := []) ⟨hx, hb, hml, hown, hts⟩ hK hP hD hS (c_X8_find l D ad cI cJ cZ σ v2 v3 hg_3) (cwV 2 hts gX8_chosenOf_X8_find rfl rfl rfl hd_X8_find ⟨Nat.le_trans (Nat.le_of_ble_eq_true rfl) hR.1, Nat.le_trans (Nat.le_of_ble_eq_true rfl) hR.2⟩) rfl (wM_0 _ _ _ _ _) rfl hl.1 rfl (Nat.le_of_ble_eq_true rfl) dX8_chosenOf_3 (fun H locs hP hS => ?_)
  refine lv_istore (lv' := [(4, .int r_3.1), (0, .ref (ad 0)), (1, .int v1), (2, .int v2), (3, .int v3)]) hx hb dX8_chosenOf_6 hl (by decide) rfl (fun ls hl => ?_)
  refine lv_iload hx hb dX8_chosenOf_8 (lv_at hl 0 rfl) ?_
  refine lv_iconst (v := (-1)) hx hb dX8_chosenOf_10 (by decide) ?_
  refine lv_icmp_ne (tgt := 19) hx hb dX8_chosenOf_11 (by decide) (fun c_11 => ?_) (fun c_11 => ?_)
  · rw [if_neg c_11] at hf
    refine lv_aload_n hx hb dX8_chosenOf_19 rfl (lv_at hl 1 rfl) ?_
    refine va_get (D := D) (ci := 7) (v := .ref (ad 7)) (C := RX8) (T := TX8) (N := 50) hx hb hts in_X8_chosenOf_X8 hown hK hP 0 (wM_0 _ _ _ _ _) rfl 8 (by decide) (hts (.fieldLink RX8 28 "CallGraphsModel" "sortOf" "[I") (List.mem_of_getElem? (i := 1) rfl)) (fun _ h9 => h9) (fM_0_8 _ _) dX8_chosenOf_20 ?_
    refine lv_iload hx hb dX8_chosenOf_23 (lv_at hl 0 rfl) ?_
    obtain ⟨h_25, hf⟩ := oi_e hf
    refine va_iald hx hb hK hP 7 0 (wM_7 _ _ _ _ _) rfl h_25 dX8_chosenOf_25 ?_
    refine lv_iconst (v := 2) hx hb dX8_chosenOf_26 (by decide) ?_
    refine lv_icmp_ne (tgt := 35) hx hb dX8_chosenOf_27 (by decide) (fun c_27 => ?_) (fun c_27 => ?_)
    · rw [if_neg c_27] at hf
      refine lv_aload_n hx hb dX8_chosenOf_35 rfl (lv_at hl 1 rfl) ?_
      refine lv_iload_n hx hb dX8_chosenOf_36 rfl (lv_at hl 2 rfl) ?_
      refine lv_iload hx hb dX8_chosenOf_37 (lv_at hl 0 rfl) ?_
      obtain ⟨r_39, hg_39, hf⟩ := oc_e hf
      refine mV_wi (wd := wM ad cI cJ cZ) (σ := r_3.2) (As := [.int v1, .int r_3.1]) (rest := []) ⟨hx, hb, hml, hown, hts⟩ hK hP hD hS (c_X8_choose l D ad cI cJ cZ r_3.2 v1 r_3.1 hg_39) (cwV 2 hts gX8_chosenOf_X8_choose rfl rfl rfl hd_X8_choose ⟨Nat.le_trans (Nat.le_of_ble_eq_true rfl) hR.1, Nat.le_trans (Nat.le_of_ble_eq_true rfl) hR.2⟩) rfl (wM_0 _ _ _ _ _) rfl hl.1 rfl (Nat.le_of_ble_eq_true rfl) dX8_chosenOf_39 (fun H locs hP hS => ?_)
      exact w_X8_chosenOf_42 hm hR hK hD r_39.1 r_39.2 hf _ _ _ hP hS (lv_sub hl [] rfl)
    · rw [if_pos c_27] at hf
      refine lv_bipush (v := (-3)) hx hb dX8_chosenOf_30 (by decide) ?_
      refine lv_goto (tgt := 42) hx hb dX8_chosenOf_32 (by decide) ?_
      exact w_X8_chosenOf_42 hm hR hK hD (-3) r_3.2 hf _ _ _ hP hS (lv_sub hl [] rfl)
  · rw [if_pos c_11] at hf
    refine lv_bipush (v := (-2)) hx hb dX8_chosenOf_14 (by decide) ?_
    refine lv_goto (tgt := 42) hx hb dX8_chosenOf_16 (by decide) ?_
    exact w_X8_chosenOf_42 hm hR hK hD (-2) r_3.2 hf _ _ _ hP hS (lv_sub hl [] rfl)
theorem hd_X8_chosenOf : yX8_chosenOf.cls = RX8 ∧ yX8_chosenOf.cls ≠ "java/lang/invoke/MethodHandle" ∧ yX8_chosenOf.cls ≠ "java/lang/invoke/VarHandle" ∧ (parseMethodDescriptor yX8_chosenOf.desc).map (fun d => d.parameters.length) = some 3 := by decide +kernel
set_option maxHeartbeats 4000000 in
set_option maxRecDepth 100000 in
theorem c_X8_chosenOf (l : Launch) (D : va_G) (ad : Nat → Nat) (cI cJ cZ : ClassId) (σ : SS) (v1 : Int32) (v2 : Int32) (v3 : Int32) {res : Int32 × SS} (hf : p_X8_chosenOf_0 v1 v2 v3 σ = some res) : Met l yX8_chosenOf wsX8_chosenOf ({ frames := 4, cells := 0, slots := 0, locals := 100 } : Room) (PW D (tyw cI cJ cZ) (wM ad cI cJ cZ σ) [.ref (ad 0), .int v1, .int v2, .int v3]) (va_Qi (fun (r : Int32) (u : SS) => (r, u) = res) (fun u t => va_P D vwCl (wM ad cI cJ cZ u) t.heap) (aM ad)) 0 0 (aM ad) := by
  refine Met.ofW (cc := cX8_chosenOf) (maxL := 5) (ret := (some .int)) (by decide) rfl ?_
  intro p e s m args below meth c s₁ B hml hv
  obtain ⟨rfl, hP, hK, hD0⟩ := hv
  have hD : ∀ σ, va_D (aM ad) (wM ad cI cJ cZ σ) := fun σ => wd_D hD0 (wM_map _ _ _ _ _) (wM_map _ _ _ _ _)
  have hm : mx p s m _ meth c cX8_chosenOf 5 (some .int) wsX8_chosenOf RX8 := ⟨B.exec, B.bytes, B.returns, hml, findClass_of_methodNamed B.named, atoms_spec (ws := wsX8_chosenOf) B.pre, B.notSynchronized⟩
  have hl := lv_entry ([.ref (ad 0), .int v1, .int v2, .int v3]) (n := 5) (Nat.le_of_ble_eq_true rfl)
  rw [lg_entry_eq]
  generalize (lg_sl ([.ref (ad 0), .int v1, .int v2, .int v3]) ++ List.replicate (5 - (lg_sl ([.ref (ad 0), .int v1, .int v2, .int v3])).length) Slot.unset).toArray = ls at hl ⊢
  exact w_X8_chosenOf_0 hm ⟨Nat.le_refl _, Nat.le_refl _⟩ hK hD v1 v2 v3 σ hf _ _ _ hP va_S.rf hl
/-! CallGraphsModel.under(II)I -/

def p_X8_under_35 (t0 : Int32) (σ : SS) : Option (Int32 × SS) := some (t0, σ)
set_option maxHeartbeats 4000000 in
set_option maxRecDepth 100000 in
theorem w_X8_under_35 {p : Program} {l : Launch} {e : Env} {R : Room} {s : State} {m : MethodId} {args : Array Value} {below : List Frame} {meth : Method} {c : Code} {D : va_G} {ad : Nat → Nat} {cI cJ cZ : ClassId} {res : Int32 × SS} (hm : mx p s m args meth c cX8_under 3 (some .int) wsX8_under RX8) (hR : 2 ≤ R.frames ∧ 47 ≤ R.locals) (hK : va_K D vwCl (tyw cI cJ cZ) s) (hD : ∀ σ, va_D (aM ad) (wM ad cI cJ cZ σ)) (t0 : Int32) (σ : SS) (hf : p_X8_under_35 t0 σ = some res) (H : Heap) (locs : List Loc) (ls : Array Slot) (hP : va_P D vwCl (wM ad cI cJ cZ σ) H) (hS : va_S (aM ad) s.heap H locs) (hl : lv_has ls 3 []) : W p l e R s m args below meth c H locs 0 0 (MQ below (va_Qi (fun (r : Int32) (u : SS) => (r, u) = res) (fun u t => va_P D vwCl (wM ad cI cJ cZ u) t.heap) (aM ad)) args s 0 0 (aM ad)) (F0 m 35 ls [.int t0]) := by
  obtain ⟨hx, hb, hr, hml, hown, hts, hlk⟩ := id hm
  unfold p_X8_under_35 at hf
  exact rt_i (wd := wM ad cI cJ cZ) hx hb hr hlk (Option.some.inj hf) hP hS dX8_under_35
def p_X8_under_16 (σ : SS) : Option (Int32 × SS) := p_X8_under_35 (-101) σ
set_option maxHeartbeats 4000000 in
set_option maxRecDepth 100000 in
theorem w_X8_under_16 {p : Program} {l : Launch} {e : Env} {R : Room} {s : State} {m : MethodId} {args : Array Value} {below : List Frame} {meth : Method} {c : Code} {D : va_G} {ad : Nat → Nat} {cI cJ cZ : ClassId} {res : Int32 × SS} (hm : mx p s m args meth c cX8_under 3 (some .int) wsX8_under RX8) (hR : 2 ≤ R.frames ∧ 47 ≤ R.locals) (hK : va_K D vwCl (tyw cI cJ cZ) s) (hD : ∀ σ, va_D (aM ad) (wM ad cI cJ cZ σ)) (σ : SS) (hf : p_X8_under_16 σ = some res) (H : Heap) (locs : List Loc) (ls : Array Slot) (hP : va_P D vwCl (wM ad cI cJ cZ σ) H) (hS : va_S (aM ad) s.heap H locs) (hl : lv_has ls 3 []) : W p l e R s m args below meth c H locs 0 0 (MQ below (va_Qi (fun (r : Int32) (u : SS) => (r, u) = res) (fun u t => va_P D vwCl (wM ad cI cJ cZ u) t.heap) (aM ad)) args s 0 0 (aM ad)) (F0 m 16 ls []) := by
  obtain ⟨hx, hb, hr, hml, hown, hts, hlk⟩ := id hm
  unfold p_X8_under_16 at hf
  refine lv_bipush (v := (-101)) hx hb dX8_under_16 (by decide) ?_
  refine lv_goto (tgt := 35) hx hb dX8_under_18 (by decide) ?_
  exact w_X8_under_35 hm hR hK hD (-101) σ hf _ _ _ hP hS (lv_sub hl [] rfl)
def p_X8_under_0 (v1 : Int32) (v2 : Int32) (σ : SS) : Option (Int32 × SS) := oc (p_X8_isType_0 σ v1) (fun r_2 => if r_2 = 0 then p_X8_under_16 σ else oc (p_X8_isType_0 σ v2) (fun r_10 => if r_10 = 0 then p_X8_under_16 σ else oc (p_X8_isUnder_0 v1 v2 σ) (fun r_24 => if r_24.1 = 0 then p_X8_under_35 0 r_24.2 else p_X8_under_35 1 r_24.2)))
set_option maxHeartbeats 4000000 in
set_option maxRecDepth 100000 in
theorem w_X8_under_0 {p : Program} {l : Launch} {e : Env} {R : Room} {s : State} {m : MethodId} {args : Array Value} {below : List Frame} {meth : Method} {c : Code} {D : va_G} {ad : Nat → Nat} {cI cJ cZ : ClassId} {res : Int32 × SS} (hm : mx p s m args meth c cX8_under 3 (some .int) wsX8_under RX8) (hR : 2 ≤ R.frames ∧ 47 ≤ R.locals) (hK : va_K D vwCl (tyw cI cJ cZ) s) (hD : ∀ σ, va_D (aM ad) (wM ad cI cJ cZ σ)) (v1 : Int32) (v2 : Int32) (σ : SS) (hf : p_X8_under_0 v1 v2 σ = some res) (H : Heap) (locs : List Loc) (ls : Array Slot) (hP : va_P D vwCl (wM ad cI cJ cZ σ) H) (hS : va_S (aM ad) s.heap H locs) (hl : lv_has ls 3 [(0, .ref (ad 0)), (1, .int v1), (2, .int v2)]) : W p l e R s m args below meth c H locs 0 0 (MQ below (va_Qi (fun (r : Int32) (u : SS) => (r, u) = res) (fun u t => va_P D vwCl (wM ad cI cJ cZ u) t.heap) (aM ad)) args s 0 0 (aM ad)) (F0 m 0 ls []) := by
  obtain ⟨hx, hb, hr, hml, hown, hts, hlk⟩ := id hm
  unfold p_X8_under_0 at hf
  refine lv_aload_n hx hb dX8_under_0 rfl (lv_at hl 0 rfl) ?_
  refine lv_iload_n hx hb dX8_under_1 rfl (lv_at hl 1 rfl) ?_
  obtain ⟨r_2, hg_2, hf⟩ := oc_e hf
  refine mV_ri (wd := wM ad cI cJ cZ) (σ := σ) (As := [.int v1]) (rest := []) ⟨hx, hb, hml, hown, hts⟩ hK hP hD hS (c_X8_isType l D ad cI cJ cZ σ v1 hg_2) (cwV 1 hts gX8_under_X8_isType rfl rfl rfl hd_X8_isType ⟨Nat.le_trans (Nat.le_of_ble_eq_true rfl) hR.1, Nat.le_trans (Nat.le_of_ble_eq_true rfl) hR.2⟩) rfl (wM_0 _ _ _ _ _) rfl hl.1 rfl (Nat.le_of_ble_eq_true rfl) dX8_under_2 (fun H locs hP hS => ?_)
  refine lv_if_eq (tgt := 16) hx hb dX8_under_5 (by decide) (fun c_5 => ?_) (fun c_5 => ?_)
  · rw [if_pos c_5] at hf
    exact w_X8_under_16 hm hR hK hD σ hf _ _ _ hP hS (lv_sub hl [] rfl)
  · rw [if_neg c_5] at hf
    refine lv_aload_n hx hb dX8_under_8 rfl (lv_at hl 0 rfl) ?_
    refine lv_iload_n hx hb dX8_under_9 rfl (lv_at hl 2 rfl) ?_
    obtain ⟨r_10, hg_10, hf⟩ := oc_e hf
    refine mV_ri (wd := wM ad cI cJ cZ) (σ := σ) (As := [.int v2]) (rest := []) ⟨hx, hb, hml, hown, hts⟩ hK hP hD hS (c_X8_isType l D ad cI cJ cZ σ v2 hg_10) (cwV 1 hts gX8_under_X8_isType rfl rfl rfl hd_X8_isType ⟨Nat.le_trans (Nat.le_of_ble_eq_true rfl) hR.1, Nat.le_trans (Nat.le_of_ble_eq_true rfl) hR.2⟩) rfl (wM_0 _ _ _ _ _) rfl hl.1 rfl (Nat.le_of_ble_eq_true rfl) dX8_under_10 (fun H locs hP hS => ?_)
    refine lv_if_ne (tgt := 21) hx hb dX8_under_13 (by decide) (fun c_13 => ?_) (fun c_13 => ?_)
    · rw [if_neg c_13] at hf
      refine lv_aload_n hx hb dX8_under_21 rfl (lv_at hl 0 rfl) ?_
      refine lv_iload_n hx hb dX8_under_22 rfl (lv_at hl 1 rfl) ?_
      refine lv_iload_n hx hb dX8_under_23 rfl (lv_at hl 2 rfl) ?_
      obtain ⟨r_24, hg_24, hf⟩ := oc_e hf
      refine mV_wi (wd := wM ad cI cJ cZ) (σ := σ) (As := [.int v1, .int v2]) (rest := []) ⟨hx, hb, hml, hown, hts⟩ hK hP hD hS (c_X8_isUnder l D ad cI cJ cZ σ v1 v2 hg_24) (cwV 2 hts gX8_under_X8_isUnder rfl rfl rfl hd_X8_isUnder ⟨Nat.le_trans (Nat.le_of_ble_eq_true rfl) hR.1, Nat.le_trans (Nat.le_of_ble_eq_true rfl) hR.2⟩) rfl (wM_0 _ _ _ _ _) rfl hl.1 rfl (Nat.le_of_ble_eq_true rfl) dX8_under_24 (fun H locs hP hS => ?_)
      refine lv_if_eq (tgt := 34) hx hb dX8_under_27 (by decide) (fun c_27 => ?_) (fun c_27 => ?_)
      · rw [if_pos c_27] at hf
        refine lv_iconst (v := 0) hx hb dX8_under_34 (by decide) ?_
        exact w_X8_under_35 hm hR hK hD 0 r_24.2 hf _ _ _ hP hS (lv_sub hl [] rfl)
      · rw [if_neg c_27] at hf
        refine lv_iconst (v := 1) hx hb dX8_under_30 (by decide) ?_
        refine lv_goto (tgt := 35) hx hb dX8_under_31 (by decide) ?_
        exact w_X8_under_35 hm hR hK hD 1 r_24.2 hf _ _ _ hP hS (lv_sub hl [] rfl)
    · rw [if_pos c_13] at hf
      exact w_X8_under_16 hm hR hK hD σ hf _ _ _ hP hS (lv_sub hl [] rfl)
theorem hd_X8_under : yX8_under.cls = RX8 ∧ yX8_under.cls ≠ "java/lang/invoke/MethodHandle" ∧ yX8_under.cls ≠ "java/lang/invoke/VarHandle" ∧ (parseMethodDescriptor yX8_under.desc).map (fun d => d.parameters.length) = some 2 := by decide +kernel
set_option maxHeartbeats 4000000 in
set_option maxRecDepth 100000 in
theorem c_X8_under (l : Launch) (D : va_G) (ad : Nat → Nat) (cI cJ cZ : ClassId) (σ : SS) (v1 : Int32) (v2 : Int32) {res : Int32 × SS} (hf : p_X8_under_0 v1 v2 σ = some res) : Met l yX8_under wsX8_under ({ frames := 2, cells := 0, slots := 0, locals := 47 } : Room) (PW D (tyw cI cJ cZ) (wM ad cI cJ cZ σ) [.ref (ad 0), .int v1, .int v2]) (va_Qi (fun (r : Int32) (u : SS) => (r, u) = res) (fun u t => va_P D vwCl (wM ad cI cJ cZ u) t.heap) (aM ad)) 0 0 (aM ad) := by
  refine Met.ofW (cc := cX8_under) (maxL := 3) (ret := (some .int)) (by decide) rfl ?_
  intro p e s m args below meth c s₁ B hml hv
  obtain ⟨rfl, hP, hK, hD0⟩ := hv
  have hD : ∀ σ, va_D (aM ad) (wM ad cI cJ cZ σ) := fun σ => wd_D hD0 (wM_map _ _ _ _ _) (wM_map _ _ _ _ _)
  have hm : mx p s m _ meth c cX8_under 3 (some .int) wsX8_under RX8 := ⟨B.exec, B.bytes, B.returns, hml, findClass_of_methodNamed B.named, atoms_spec (ws := wsX8_under) B.pre, B.notSynchronized⟩
  have hl := lv_entry ([.ref (ad 0), .int v1, .int v2]) (n := 3) (Nat.le_of_ble_eq_true rfl)
  rw [lg_entry_eq]
  generalize (lg_sl ([.ref (ad 0), .int v1, .int v2]) ++ List.replicate (3 - (lg_sl ([.ref (ad 0), .int v1, .int v2])).length) Slot.unset).toArray = ls at hl ⊢
  exact w_X8_under_0 hm ⟨Nat.le_refl _, Nat.le_refl _⟩ hK hD v1 v2 σ hf _ _ _ hP va_S.rf hl
/-! CallGraphsModel.found(II)I -/

def p_X8_found_34 (t0 : Int32) (σ : SS) : Option (Int32 × SS) := some (t0, σ)
set_option maxHeartbeats 4000000 in
set_option maxRecDepth 100000 in
theorem w_X8_found_34 {p : Program} {l : Launch} {e : Env} {R : Room} {s : State} {m : MethodId} {args : Array Value} {below : List Frame} {meth : Method} {c : Code} {D : va_G} {ad : Nat → Nat} {cI cJ cZ : ClassId} {res : Int32 × SS} (hm : mx p s m args meth c cX8_found 3 (some .int) wsX8_found RX8) (hR : 4 ≤ R.frames ∧ 100 ≤ R.locals) (hK : va_K D vwCl (tyw cI cJ cZ) s) (hD : ∀ σ, va_D (aM ad) (wM ad cI cJ cZ σ)) (t0 : Int32) (σ : SS) (hf : p_X8_found_34 t0 σ = some res) (H : Heap) (locs : List Loc) (ls : Array Slot) (hP : va_P D vwCl (wM ad cI cJ cZ σ) H) (hS : va_S (aM ad) s.heap H locs) (hl : lv_has ls 3 []) : W p l e R s m args below meth c H locs 0 0 (MQ below (va_Qi (fun (r : Int32) (u : SS) => (r, u) = res) (fun u t => va_P D vwCl (wM ad cI cJ cZ u) t.heap) (aM ad)) args s 0 0 (aM ad)) (F0 m 34 ls [.int t0]) := by
  obtain ⟨hx, hb, hr, hml, hown, hts, hlk⟩ := id hm
  unfold p_X8_found_34 at hf
  exact rt_i (wd := wM ad cI cJ cZ) hx hb hr hlk (Option.some.inj hf) hP hS dX8_found_34
def p_X8_found_0 (v1 : Int32) (v2 : Int32) (σ : SS) : Option (Int32 × SS) := oc (p_X8_isType_0 σ v1) (fun r_2 => if r_2 = 0 then p_X8_found_34 (-101) σ else oc (p_X8_in_0 v2 0 9) (fun r_17 => if r_17 = 0 then p_X8_found_34 (-102) σ else oc (p_X8_find_0 v1 v2 σ) (fun r_31 => p_X8_found_34 r_31.1 r_31.2)))
set_option maxHeartbeats 4000000 in
set_option maxRecDepth 100000 in
theorem w_X8_found_0 {p : Program} {l : Launch} {e : Env} {R : Room} {s : State} {m : MethodId} {args : Array Value} {below : List Frame} {meth : Method} {c : Code} {D : va_G} {ad : Nat → Nat} {cI cJ cZ : ClassId} {res : Int32 × SS} (hm : mx p s m args meth c cX8_found 3 (some .int) wsX8_found RX8) (hR : 4 ≤ R.frames ∧ 100 ≤ R.locals) (hK : va_K D vwCl (tyw cI cJ cZ) s) (hD : ∀ σ, va_D (aM ad) (wM ad cI cJ cZ σ)) (v1 : Int32) (v2 : Int32) (σ : SS) (hf : p_X8_found_0 v1 v2 σ = some res) (H : Heap) (locs : List Loc) (ls : Array Slot) (hP : va_P D vwCl (wM ad cI cJ cZ σ) H) (hS : va_S (aM ad) s.heap H locs) (hl : lv_has ls 3 [(0, .ref (ad 0)), (1, .int v1), (2, .int v2)]) : W p l e R s m args below meth c H locs 0 0 (MQ below (va_Qi (fun (r : Int32) (u : SS) => (r, u) = res) (fun u t => va_P D vwCl (wM ad cI cJ cZ u) t.heap) (aM ad)) args s 0 0 (aM ad)) (F0 m 0 ls []) := by
  obtain ⟨hx, hb, hr, hml, hown, hts, hlk⟩ := id hm
  unfold p_X8_found_0 at hf
  refine lv_aload_n hx hb dX8_found_0 rfl (lv_at hl 0 rfl) ?_
  refine lv_iload_n hx hb dX8_found_1 rfl (lv_at hl 1 rfl) ?_
  obtain ⟨r_2, hg_2, hf⟩ := oc_e hf
  refine mV_ri (wd := wM ad cI cJ cZ) (σ := σ) (As := [.int v1]) (rest := []) ⟨hx, hb, hml, hown, hts⟩ hK hP hD hS (c_X8_isType l D ad cI cJ cZ σ v1 hg_2) (cwV 1 hts gX8_found_X8_isType rfl rfl rfl hd_X8_isType ⟨Nat.le_trans (Nat.le_of_ble_eq_true rfl) hR.1, Nat.le_trans (Nat.le_of_ble_eq_true rfl) hR.2⟩) rfl (wM_0 _ _ _ _ _) rfl hl.1 rfl (Nat.le_of_ble_eq_true rfl) dX8_found_2 (fun H locs hP hS => ?_)
  refine lv_if_ne (tgt := 13) hx hb dX8_found_5 (by decide) (fun c_5 => ?_) (fun c_5 => ?_)
  · rw [if_neg c_5] at hf
    refine lv_iload_n hx hb dX8_found_13 rfl (lv_at hl 2 rfl) ?_
    refine lv_iconst (v := 0) hx hb dX8_found_14 (by decide) ?_
    refine lv_bipush (v := 9) hx hb dX8_found_15 (by decide) ?_
    obtain ⟨r_17, hg_17, hf⟩ := oc_e hf
    refine mS_i (D := D) (As := [.int v2, .int 0, .int 9]) (rest := []) ⟨hx, hb, hml, hown, hts⟩ hP hS (c_X8_in l v2 0 9 hg_17) (va_cwS 3 hts gX8_found_X8_in rfl rfl rfl hd_X8_in ⟨Nat.le_trans (Nat.le_of_ble_eq_true rfl) hR.1, Nat.le_trans (Nat.le_of_ble_eq_true rfl) hR.2⟩) rfl hl.1 rfl (Nat.le_of_ble_eq_true rfl) dX8_found_17 (fun H locs hP hS => ?_)
    refine lv_if_ne (tgt := 28) hx hb dX8_found_20 (by decide) (fun c_20 => ?_) (fun c_20 => ?_)
    · rw [if_neg c_20] at hf
      refine lv_aload_n hx hb dX8_found_28 rfl (lv_at hl 0 rfl) ?_
      refine lv_iload_n hx hb dX8_found_29 rfl (lv_at hl 1 rfl) ?_
      refine lv_iload_n hx hb dX8_found_30 rfl (lv_at hl 2 rfl) ?_
      obtain ⟨r_31, hg_31, hf⟩ := oc_e hf
      refine mV_wi (wd := wM ad cI cJ cZ) (σ := σ) (As := [.int v1, .int v2]) (rest := []) ⟨hx, hb, hml, hown, hts⟩ hK hP hD hS (c_X8_find l D ad cI cJ cZ σ v1 v2 hg_31) (cwV 2 hts gX8_found_X8_find rfl rfl rfl hd_X8_find ⟨Nat.le_trans (Nat.le_of_ble_eq_true rfl) hR.1, Nat.le_trans (Nat.le_of_ble_eq_true rfl) hR.2⟩) rfl (wM_0 _ _ _ _ _) rfl hl.1 rfl (Nat.le_of_ble_eq_true rfl) dX8_found_31 (fun H locs hP hS => ?_)
      exact w_X8_found_34 hm hR hK hD r_31.1 r_31.2 hf _ _ _ hP hS (lv_sub hl [] rfl)
    · rw [if_pos c_20] at hf
      refine lv_bipush (v := (-102)) hx hb dX8_found_23 (by decide) ?_
      refine lv_goto (tgt := 34) hx hb dX8_found_25 (by decide) ?_
      exact w_X8_found_34 hm hR hK hD (-102) σ hf _ _ _ hP hS (lv_sub hl [] rfl)
  · rw [if_pos c_5] at hf
    refine lv_bipush (v := (-101)) hx hb dX8_found_8 (by decide) ?_
    refine lv_goto (tgt := 34) hx hb dX8_found_10 (by decide) ?_
    exact w_X8_found_34 hm hR hK hD (-101) σ hf _ _ _ hP hS (lv_sub hl [] rfl)
theorem hd_X8_found : yX8_found.cls = RX8 ∧ yX8_found.cls ≠ "java/lang/invoke/MethodHandle" ∧ yX8_found.cls ≠ "java/lang/invoke/VarHandle" ∧ (parseMethodDescriptor yX8_found.desc).map (fun d => d.parameters.length) = some 2 := by decide +kernel
set_option maxHeartbeats 4000000 in
set_option maxRecDepth 100000 in
theorem c_X8_found (l : Launch) (D : va_G) (ad : Nat → Nat) (cI cJ cZ : ClassId) (σ : SS) (v1 : Int32) (v2 : Int32) {res : Int32 × SS} (hf : p_X8_found_0 v1 v2 σ = some res) : Met l yX8_found wsX8_found ({ frames := 4, cells := 0, slots := 0, locals := 100 } : Room) (PW D (tyw cI cJ cZ) (wM ad cI cJ cZ σ) [.ref (ad 0), .int v1, .int v2]) (va_Qi (fun (r : Int32) (u : SS) => (r, u) = res) (fun u t => va_P D vwCl (wM ad cI cJ cZ u) t.heap) (aM ad)) 0 0 (aM ad) := by
  refine Met.ofW (cc := cX8_found) (maxL := 3) (ret := (some .int)) (by decide) rfl ?_
  intro p e s m args below meth c s₁ B hml hv
  obtain ⟨rfl, hP, hK, hD0⟩ := hv
  have hD : ∀ σ, va_D (aM ad) (wM ad cI cJ cZ σ) := fun σ => wd_D hD0 (wM_map _ _ _ _ _) (wM_map _ _ _ _ _)
  have hm : mx p s m _ meth c cX8_found 3 (some .int) wsX8_found RX8 := ⟨B.exec, B.bytes, B.returns, hml, findClass_of_methodNamed B.named, atoms_spec (ws := wsX8_found) B.pre, B.notSynchronized⟩
  have hl := lv_entry ([.ref (ad 0), .int v1, .int v2]) (n := 3) (Nat.le_of_ble_eq_true rfl)
  rw [lg_entry_eq]
  generalize (lg_sl ([.ref (ad 0), .int v1, .int v2]) ++ List.replicate (3 - (lg_sl ([.ref (ad 0), .int v1, .int v2])).length) Slot.unset).toArray = ls at hl ⊢
  exact w_X8_found_0 hm ⟨Nat.le_refl _, Nat.le_refl _⟩ hK hD v1 v2 σ hf _ _ _ hP va_S.rf hl
/-! CallGraphsModel.chosen(III)I -/

def p_X8_chosen_16 (σ : SS) : Option (Int32 × SS) := some ((-101), σ)
set_option maxHeartbeats 4000000 in
set_option maxRecDepth 100000 in
theorem w_X8_chosen_16 {p : Program} {l : Launch} {e : Env} {R : Room} {s : State} {m : MethodId} {args : Array Value} {below : List Frame} {meth : Method} {c : Code} {D : va_G} {ad : Nat → Nat} {cI cJ cZ : ClassId} {res : Int32 × SS} (hm : mx p s m args meth c cX8_chosen 4 (some .int) wsX8_chosen RX8) (hR : 5 ≤ R.frames ∧ 124 ≤ R.locals) (hK : va_K D vwCl (tyw cI cJ cZ) s) (hD : ∀ σ, va_D (aM ad) (wM ad cI cJ cZ σ)) (σ : SS) (hf : p_X8_chosen_16 σ = some res) (H : Heap) (locs : List Loc) (ls : Array Slot) (hP : va_P D vwCl (wM ad cI cJ cZ σ) H) (hS : va_S (aM ad) s.heap H locs) (hl : lv_has ls 4 []) : W p l e R s m args below meth c H locs 0 0 (MQ below (va_Qi (fun (r : Int32) (u : SS) => (r, u) = res) (fun u t => va_P D vwCl (wM ad cI cJ cZ u) t.heap) (aM ad)) args s 0 0 (aM ad)) (F0 m 16 ls []) := by
  obtain ⟨hx, hb, hr, hml, hown, hts, hlk⟩ := id hm
  unfold p_X8_chosen_16 at hf
  refine lv_bipush (v := (-101)) hx hb dX8_chosen_16 (by decide) ?_
  exact rt_i (wd := wM ad cI cJ cZ) hx hb hr hlk (Option.some.inj hf) hP hS dX8_chosen_18
def p_X8_chosen_50 (t0 : Int32) (σ : SS) : Option (Int32 × SS) := some (t0, σ)
set_option maxHeartbeats 4000000 in
set_option maxRecDepth 100000 in
theorem w_X8_chosen_50 {p : Program} {l : Launch} {e : Env} {R : Room} {s : State} {m : MethodId} {args : Array Value} {below : List Frame} {meth : Method} {c : Code} {D : va_G} {ad : Nat → Nat} {cI cJ cZ : ClassId} {res : Int32 × SS} (hm : mx p s m args meth c cX8_chosen 4 (some .int) wsX8_chosen RX8) (hR : 5 ≤ R.frames ∧ 124 ≤ R.locals) (hK : va_K D vwCl (tyw cI cJ cZ) s) (hD : ∀ σ, va_D (aM ad) (wM ad cI cJ cZ σ)) (t0 : Int32) (σ : SS) (hf : p_X8_chosen_50 t0 σ = some res) (H : Heap) (locs : List Loc) (ls : Array Slot) (hP : va_P D vwCl (wM ad cI cJ cZ σ) H) (hS : va_S (aM ad) s.heap H locs) (hl : lv_has ls 4 []) : W p l e R s m args below meth c H locs 0 0 (MQ below (va_Qi (fun (r : Int32) (u : SS) => (r, u) = res) (fun u t => va_P D vwCl (wM ad cI cJ cZ u) t.heap) (aM ad)) args s 0 0 (aM ad)) (F0 m 50 ls [.int t0]) := by
  obtain ⟨hx, hb, hr, hml, hown, hts, hlk⟩ := id hm
  unfold p_X8_chosen_50 at hf
  exact rt_i (wd := wM ad cI cJ cZ) hx hb hr hlk (Option.some.inj hf) hP hS dX8_chosen_50
def p_X8_chosen_38 (σ : SS) : Option (Int32 × SS) := p_X8_chosen_50 (-102) σ
set_option maxHeartbeats 4000000 in
set_option maxRecDepth 100000 in
theorem w_X8_chosen_38 {p : Program} {l : Launch} {e : Env} {R : Room} {s : State} {m : MethodId} {args : Array Value} {below : List Frame} {meth : Method} {c : Code} {D : va_G} {ad : Nat → Nat} {cI cJ cZ : ClassId} {res : Int32 × SS} (hm : mx p s m args meth c cX8_chosen 4 (some .int) wsX8_chosen RX8) (hR : 5 ≤ R.frames ∧ 124 ≤ R.locals) (hK : va_K D vwCl (tyw cI cJ cZ) s) (hD : ∀ σ, va_D (aM ad) (wM ad cI cJ cZ σ)) (σ : SS) (hf : p_X8_chosen_38 σ = some res) (H : Heap) (locs : List Loc) (ls : Array Slot) (hP : va_P D vwCl (wM ad cI cJ cZ σ) H) (hS : va_S (aM ad) s.heap H locs) (hl : lv_has ls 4 []) : W p l e R s m args below meth c H locs 0 0 (MQ below (va_Qi (fun (r : Int32) (u : SS) => (r, u) = res) (fun u t => va_P D vwCl (wM ad cI cJ cZ u) t.heap) (aM ad)) args s 0 0 (aM ad)) (F0 m 38 ls []) := by
  obtain ⟨hx, hb, hr, hml, hown, hts, hlk⟩ := id hm
  unfold p_X8_chosen_38 at hf
  refine lv_bipush (v := (-102)) hx hb dX8_chosen_38 (by decide) ?_
  refine lv_goto (tgt := 50) hx hb dX8_chosen_40 (by decide) ?_
  exact w_X8_chosen_50 hm hR hK hD (-102) σ hf _ _ _ hP hS (lv_sub hl [] rfl)
def p_X8_chosen_0 (v1 : Int32) (v2 : Int32) (v3 : Int32) (σ : SS) : Option (Int32 × SS) := oc (p_X8_isType_0 σ v1) (fun r_2 => if r_2 = 0 then p_X8_chosen_16 σ else oc (p_X8_isType_0 σ v2) (fun r_10 => if r_10 = 0 then p_X8_chosen_16 σ else oc (p_X8_in_0 v3 0 9) (fun r_23 => if r_23 = 0 then p_X8_chosen_38 σ else oc (p_X8_isUnder_0 v1 v2 σ) (fun r_32 => if r_32.1 = 0 then p_X8_chosen_38 r_32.2 else oc (p_X8_chosenOf_0 v1 v2 v3 r_32.2) (fun r_47 => p_X8_chosen_50 r_47.1 r_47.2)))))
set_option maxHeartbeats 4000000 in
set_option maxRecDepth 100000 in
theorem w_X8_chosen_0 {p : Program} {l : Launch} {e : Env} {R : Room} {s : State} {m : MethodId} {args : Array Value} {below : List Frame} {meth : Method} {c : Code} {D : va_G} {ad : Nat → Nat} {cI cJ cZ : ClassId} {res : Int32 × SS} (hm : mx p s m args meth c cX8_chosen 4 (some .int) wsX8_chosen RX8) (hR : 5 ≤ R.frames ∧ 124 ≤ R.locals) (hK : va_K D vwCl (tyw cI cJ cZ) s) (hD : ∀ σ, va_D (aM ad) (wM ad cI cJ cZ σ)) (v1 : Int32) (v2 : Int32) (v3 : Int32) (σ : SS) (hf : p_X8_chosen_0 v1 v2 v3 σ = some res) (H : Heap) (locs : List Loc) (ls : Array Slot) (hP : va_P D vwCl (wM ad cI cJ cZ σ) H) (hS : va_S (aM ad) s.heap H locs) (hl : lv_has ls 4 [(0, .ref (ad 0)), (1, .int v1), (2, .int v2), (3, .int v3)]) : W p l e R s m args below meth c H locs 0 0 (MQ below (va_Qi (fun (r : Int32) (u : SS) => (r, u) = res) (fun u t => va_P D vwCl (wM ad cI cJ cZ u) t.heap) (aM ad)) args s 0 0 (aM ad)) (F0 m 0 ls []) := by
  obtain ⟨hx, hb, hr, hml, hown, hts, hlk⟩ := id hm
  unfold p_X8_chosen_0 at hf
  refine lv_aload_n hx hb dX8_chosen_0 rfl (lv_at hl 0 rfl) ?_
  refine lv_iload_n hx hb dX8_chosen_1 rfl (lv_at hl 1 rfl) ?_
  obtain ⟨r_2, hg_2, hf⟩ := oc_e hf
  refine mV_ri (wd := wM ad cI cJ cZ) (σ := σ) (As := [.int v1]) (rest := []) ⟨hx, hb, hml, hown, hts⟩ hK hP hD hS (c_X8_isType l D ad cI cJ cZ σ v1 hg_2) (cwV 1 hts gX8_chosen_X8_isType rfl rfl rfl hd_X8_isType ⟨Nat.le_trans (Nat.le_of_ble_eq_true rfl) hR.1, Nat.le_trans (Nat.le_of_ble_eq_true rfl) hR.2⟩) rfl (wM_0 _ _ _ _ _) rfl hl.1 rfl (Nat.le_of_ble_eq_true rfl) dX8_chosen_2 (fun H locs hP hS => ?_)
  refine lv_if_eq (tgt := 16) hx hb dX8_chosen_5 (by decide) (fun c_5 => ?_) (fun c_5 => ?_)
  · rw [if_pos c_5] at hf
    exact w_X8_chosen_16 hm hR hK hD σ hf _ _ _ hP hS (lv_sub hl [] rfl)
  · rw [if_neg c_5] at hf
    refine lv_aload_n hx hb dX8_chosen_8 rfl (lv_at hl 0 rfl) ?_
    refine lv_iload_n hx hb dX8_chosen_9 rfl (lv_at hl 2 rfl) ?_
    obtain ⟨r_10, hg_10, hf⟩ := oc_e hf
    refine mV_ri (wd := wM ad cI cJ cZ) (σ := σ) (As := [.int v2]) (rest := []) ⟨hx, hb, hml, hown, hts⟩ hK hP hD hS (c_X8_isType l D ad cI cJ cZ σ v2 hg_10) (cwV 1 hts gX8_chosen_X8_isType rfl rfl rfl hd_X8_isType ⟨Nat.le_trans (Nat.le_of_ble_eq_true rfl) hR.1, Nat.le_trans (Nat.le_of_ble_eq_true rfl) hR.2⟩) rfl (wM_0 _ _ _ _ _) rfl hl.1 rfl (Nat.le_of_ble_eq_true rfl) dX8_chosen_10 (fun H locs hP hS => ?_)
    refine lv_if_ne (tgt := 19) hx hb dX8_chosen_13 (by decide) (fun c_13 => ?_) (fun c_13 => ?_)
    · rw [if_neg c_13] at hf
      refine lv_iload_n hx hb dX8_chosen_19 rfl (lv_at hl 3 rfl) ?_
      refine lv_iconst (v := 0) hx hb dX8_chosen_20 (by decide) ?_
      refine lv_bipush (v := 9) hx hb dX8_chosen_21 (by decide) ?_
      obtain ⟨r_23, hg_23, hf⟩ := oc_e hf
      refine mS_i (D := D) (As := [.int v3, .int 0, .int 9]) (rest := []) ⟨hx, hb, hml, hown, hts⟩ hP hS (c_X8_in l v3 0 9 hg_23) (va_cwS 3 hts gX8_chosen_X8_in rfl rfl rfl hd_X8_in ⟨Nat.le_trans (Nat.le_of_ble_eq_true rfl) hR.1, Nat.le_trans (Nat.le_of_ble_eq_true rfl) hR.2⟩) rfl hl.1 rfl (Nat.le_of_ble_eq_true rfl) dX8_chosen_23 (fun H locs hP hS => ?_)
      refine lv_if_eq (tgt := 38) hx hb dX8_chosen_26 (by decide) (fun c_26 => ?_) (fun c_26 => ?_)
      · rw [if_pos c_26] at hf
        exact w_X8_chosen_38 hm hR hK hD σ hf _ _ _ hP hS (lv_sub hl [] rfl)
      · rw [if_neg c_26] at hf
        refine lv_aload_n hx hb dX8_chosen_29 rfl (lv_at hl 0 rfl) ?_
        refine lv_iload_n hx hb dX8_chosen_30 rfl (lv_at hl 1 rfl) ?_
        refine lv_iload_n hx hb dX8_chosen_31 rfl (lv_at hl 2 rfl) ?_
        obtain ⟨r_32, hg_32, hf⟩ := oc_e hf
        refine mV_wi (wd := wM ad cI cJ cZ) (σ := σ) (As := [.int v1, .int v2]) (rest := []) ⟨hx, hb, hml, hown, hts⟩ hK hP hD hS (c_X8_isUnder l D ad cI cJ cZ σ v1 v2 hg_32) (cwV 2 hts gX8_chosen_X8_isUnder rfl rfl rfl hd_X8_isUnder ⟨Nat.le_trans (Nat.le_of_ble_eq_true rfl) hR.1, Nat.le_trans (Nat.le_of_ble_eq_true rfl) hR.2⟩) rfl (wM_0 _ _ _ _ _) rfl hl.1 rfl (Nat.le_of_ble_eq_true rfl) dX8_chosen_32 (fun H locs hP hS => ?_)
        refine lv_if_ne (tgt := 43) hx hb dX8_chosen_35 (by decide) (fun c_35 => ?_) (fun c_35 => ?_)
        · rw [if_neg c_35] at hf
          refine lv_aload_n hx hb dX8_chosen_43 rfl (lv_at hl 0 rfl) ?_
          refine lv_iload_n hx hb dX8_chosen_44 rfl (lv_at hl 1 rfl) ?_
          refine lv_iload_n hx hb dX8_chosen_45 rfl (lv_at hl 2 rfl) ?_
          refine lv_iload_n hx hb dX8_chosen_46 rfl (lv_at hl 3 rfl) ?_
          obtain ⟨r_47, hg_47, hf⟩ := oc_e hf
          refine mV_wi (wd := wM ad cI cJ cZ) (σ := r_32.2) (As := [.int v1, .int v2, .int v3]) (rest := []) ⟨hx, hb, hml, hown, hts⟩ hK hP hD hS (c_X8_chosenOf l D ad cI cJ cZ r_32.2 v1 v2 v3 hg_47) (cwV 3 hts gX8_chosen_X8_chosenOf rfl rfl rfl hd_X8_chosenOf ⟨Nat.le_trans (Nat.le_of_ble_eq_true rfl) hR.1, Nat.le_trans (Nat.le_of_ble_eq_true rfl) hR.2⟩) rfl (wM_0 _ _ _ _ _) rfl hl.1 rfl (Nat.le_of_ble_eq_true rfl) dX8_chosen_47 (fun H locs hP hS => ?_)
          exact w_X8_chosen_50 hm hR hK hD r_47.1 r_47.2 hf _ _ _ hP hS (lv_sub hl [] rfl)
        · rw [if_pos c_35] at hf
          exact w_X8_chosen_38 hm hR hK hD r_32.2 hf _ _ _ hP hS (lv_sub hl [] rfl)
    · rw [if_pos c_13] at hf
      exact w_X8_chosen_16 hm hR hK hD σ hf _ _ _ hP hS (lv_sub hl [] rfl)
theorem hd_X8_chosen : yX8_chosen.cls = RX8 ∧ yX8_chosen.cls ≠ "java/lang/invoke/MethodHandle" ∧ yX8_chosen.cls ≠ "java/lang/invoke/VarHandle" ∧ (parseMethodDescriptor yX8_chosen.desc).map (fun d => d.parameters.length) = some 3 := by decide +kernel
set_option maxHeartbeats 4000000 in
set_option maxRecDepth 100000 in
theorem c_X8_chosen (l : Launch) (D : va_G) (ad : Nat → Nat) (cI cJ cZ : ClassId) (σ : SS) (v1 : Int32) (v2 : Int32) (v3 : Int32) {res : Int32 × SS} (hf : p_X8_chosen_0 v1 v2 v3 σ = some res) : Met l yX8_chosen wsX8_chosen ({ frames := 5, cells := 0, slots := 0, locals := 124 } : Room) (PW D (tyw cI cJ cZ) (wM ad cI cJ cZ σ) [.ref (ad 0), .int v1, .int v2, .int v3]) (va_Qi (fun (r : Int32) (u : SS) => (r, u) = res) (fun u t => va_P D vwCl (wM ad cI cJ cZ u) t.heap) (aM ad)) 0 0 (aM ad) := by
  refine Met.ofW (cc := cX8_chosen) (maxL := 4) (ret := (some .int)) (by decide) rfl ?_
  intro p e s m args below meth c s₁ B hml hv
  obtain ⟨rfl, hP, hK, hD0⟩ := hv
  have hD : ∀ σ, va_D (aM ad) (wM ad cI cJ cZ σ) := fun σ => wd_D hD0 (wM_map _ _ _ _ _) (wM_map _ _ _ _ _)
  have hm : mx p s m _ meth c cX8_chosen 4 (some .int) wsX8_chosen RX8 := ⟨B.exec, B.bytes, B.returns, hml, findClass_of_methodNamed B.named, atoms_spec (ws := wsX8_chosen) B.pre, B.notSynchronized⟩
  have hl := lv_entry ([.ref (ad 0), .int v1, .int v2, .int v3]) (n := 4) (Nat.le_of_ble_eq_true rfl)
  rw [lg_entry_eq]
  generalize (lg_sl ([.ref (ad 0), .int v1, .int v2, .int v3]) ++ List.replicate (4 - (lg_sl ([.ref (ad 0), .int v1, .int v2, .int v3])).length) Slot.unset).toArray = ls at hl ⊢
  exact w_X8_chosen_0 hm ⟨Nat.le_refl _, Nat.le_refl _⟩ hK hD v1 v2 v3 σ hf _ _ _ hP va_S.rf hl
