/-! CallGraphsModel.hasPlain(I)Z -/
theorem in_X8_hasPlain_X8 : ∀ w ∈ u_ws RX8 TX8 50, w ∈ wsX8_hasPlain := fun w h => List.mem_cons_of_mem _ (List.mem_append_right _ h)
def p_X8_hasPlain_40 (σ : SS) (k4 : Int32 → Int32 → Int32 → Option (Int32)) (v1 : Int32) (v3 : Int32) (t0 : Int32) : Option (Int32) := k4 v1 t0 (v3 + 1)
set_option maxHeartbeats 4000000 in
set_option maxRecDepth 100000 in
theorem w_X8_hasPlain_40 {p : Program} {l : Launch} {e : Env} {R : Room} {s : State} {m : MethodId} {args : Array Value} {below : List Frame} {meth : Method} {c : Code} {D : va_G} {ad : Nat → Nat} {cI cJ cZ : ClassId} {res : Int32} (hm : mx p s m args meth c cX8_hasPlain 4 (some .boolean) wsX8_hasPlain RX8) (hR : 0 ≤ R.frames ∧ 0 ≤ R.locals) (hK : va_K D vwCl (tyw cI cJ cZ) s) (hD : ∀ σ, va_D (aM ad) (wM ad cI cJ cZ σ)) (σ : SS) (k4 : Int32 → Int32 → Int32 → Option (Int32)) (hk4 : ∀ (v1 : Int32) (v2 : Int32) (v3 : Int32), k4 v1 v2 v3 = some res → ∀ (H : Heap) (locs : List Loc) (ls : Array Slot), va_P D vwCl (wM ad cI cJ cZ σ) H → va_S (aM ad) s.heap H locs → lv_has ls 4 [(0, .ref (ad 0)), (1, .int v1), (2, .int v2), (3, .int v3)] → W p l e R s m args below meth c H locs 0 0 (MQ below (va_Qi (fun (r : Int32) (u : SS) => r = res ∧ u = σ) (fun u t => va_P D vwCl (wM ad cI cJ cZ u) t.heap) (aM ad)) args s 0 0 (aM ad)) (F0 m 4 ls [])) (v1 : Int32) (v3 : Int32) (t0 : Int32) (hf : p_X8_hasPlain_40 σ k4 v1 v3 t0 = some res) (H : Heap) (locs : List Loc) (ls : Array Slot) (hP : va_P D vwCl (wM ad cI cJ cZ σ) H) (hS : va_S (aM ad) s.heap H locs) (hl : lv_has ls 4 [(0, .ref (ad 0)), (1, .int v1), (3, .int v3)]) : W p l e R s m args below meth c H locs 0 0 (MQ below (va_Qi (fun (r : Int32) (u : SS) => r = res ∧ u = σ) (fun u t => va_P D vwCl (wM ad cI cJ cZ u) t.heap) (aM ad)) args s 0 0 (aM ad)) (F0 m 40 ls [.int t0]) := by
  obtain ⟨hx, hb, hr, hml, hown, hts, hlk⟩ := id hm
  unfold p_X8_hasPlain_40 at hf
  refine lv_istore_n (lv' := [(2, .int t0), (0, .ref (ad 0)), (1, .int v1), (3, .int v3)]) hx hb dX8_hasPlain_40 rfl hl (by decide) rfl (fun ls hl => ?_)
  refine lv_iinc (v := (v3 + 1)) (lv' := [(3, .int (v3 + 1)), (2, .int t0), (0, .ref (ad 0)), (1, .int v1)]) hx hb dX8_hasPlain_41 hl (k := 3) rfl rfl (by decide) rfl (fun ls hl => ?_)
  refine lv_goto (tgt := 4) hx hb dX8_hasPlain_44 (by decide) ?_
  exact hk4 v1 t0 (v3 + 1) hf _ _ _ hP hS (lv_sub hl [2, 3, 1, 0] rfl)
def p_X8_hasPlain_35 (σ : SS) (k4 : Int32 → Int32 → Int32 → Option (Int32)) (v1 : Int32) (v3 : Int32) : Option (Int32) := p_X8_hasPlain_40 σ k4 v1 v3 1
set_option maxHeartbeats 4000000 in
set_option maxRecDepth 100000 in
theorem w_X8_hasPlain_35 {p : Program} {l : Launch} {e : Env} {R : Room} {s : State} {m : MethodId} {args : Array Value} {below : List Frame} {meth : Method} {c : Code} {D : va_G} {ad : Nat → Nat} {cI cJ cZ : ClassId} {res : Int32} (hm : mx p s m args meth c cX8_hasPlain 4 (some .boolean) wsX8_hasPlain RX8) (hR : 0 ≤ R.frames ∧ 0 ≤ R.locals) (hK : va_K D vwCl (tyw cI cJ cZ) s) (hD : ∀ σ, va_D (aM ad) (wM ad cI cJ cZ σ)) (σ : SS) (k4 : Int32 → Int32 → Int32 → Option (Int32)) (hk4 : ∀ (v1 : Int32) (v2 : Int32) (v3 : Int32), k4 v1 v2 v3 = some res → ∀ (H : Heap) (locs : List Loc) (ls : Array Slot), va_P D vwCl (wM ad cI cJ cZ σ) H → va_S (aM ad) s.heap H locs → lv_has ls 4 [(0, .ref (ad 0)), (1, .int v1), (2, .int v2), (3, .int v3)] → W p l e R s m args below meth c H locs 0 0 (MQ below (va_Qi (fun (r : Int32) (u : SS) => r = res ∧ u = σ) (fun u t => va_P D vwCl (wM ad cI cJ cZ u) t.heap) (aM ad)) args s 0 0 (aM ad)) (F0 m 4 ls [])) (v1 : Int32) (v3 : Int32) (hf : p_X8_hasPlain_35 σ k4 v1 v3 = some res) (H : Heap) (locs : List Loc) (ls : Array Slot) (hP : va_P D vwCl (wM ad cI cJ cZ σ) H) (hS : va_S (aM ad) s.heap H locs) (hl : lv_has ls 4 [(0, .ref (ad 0)), (1, .int v1), (3, .int v3)]) : W p l e R s m args below meth c H locs 0 0 (MQ below (va_Qi (fun (r : Int32) (u : SS) => r = res ∧ u = σ) (fun u t => va_P D vwCl (wM ad cI cJ cZ u) t.heap) (aM ad)) args s 0 0 (aM ad)) (F0 m 35 ls []) := by
  obtain ⟨hx, hb, hr, hml, hown, hts, hlk⟩ := id hm
  unfold p_X8_hasPlain_35 at hf
  refine lv_iconst (v := 1) hx hb dX8_hasPlain_35 (by decide) ?_
  refine lv_goto (tgt := 40) hx hb dX8_hasPlain_36 (by decide) ?_
  exact w_X8_hasPlain_40 hm hR hK hD σ k4 hk4 v1 v3 1 hf _ _ _ hP hS (lv_sub hl [0, 1, 2] rfl)
def p_X8_hasPlain_39 (σ : SS) (k4 : Int32 → Int32 → Int32 → Option (Int32)) (v1 : Int32) (v3 : Int32) : Option (Int32) := p_X8_hasPlain_40 σ k4 v1 v3 0
set_option maxHeartbeats 4000000 in
set_option maxRecDepth 100000 in
theorem w_X8_hasPlain_39 {p : Program} {l : Launch} {e : Env} {R : Room} {s : State} {m : MethodId} {args : Array Value} {below : List Frame} {meth : Method} {c : Code} {D : va_G} {ad : Nat → Nat} {cI cJ cZ : ClassId} {res : Int32} (hm : mx p s m args meth c cX8_hasPlain 4 (some .boolean) wsX8_hasPlain RX8) (hR : 0 ≤ R.frames ∧ 0 ≤ R.locals) (hK : va_K D vwCl (tyw cI cJ cZ) s) (hD : ∀ σ, va_D (aM ad) (wM ad cI cJ cZ σ)) (σ : SS) (k4 : Int32 → Int32 → Int32 → Option (Int32)) (hk4 : ∀ (v1 : Int32) (v2 : Int32) (v3 : Int32), k4 v1 v2 v3 = some res → ∀ (H : Heap) (locs : List Loc) (ls : Array Slot), va_P D vwCl (wM ad cI cJ cZ σ) H → va_S (aM ad) s.heap H locs → lv_has ls 4 [(0, .ref (ad 0)), (1, .int v1), (2, .int v2), (3, .int v3)] → W p l e R s m args below meth c H locs 0 0 (MQ below (va_Qi (fun (r : Int32) (u : SS) => r = res ∧ u = σ) (fun u t => va_P D vwCl (wM ad cI cJ cZ u) t.heap) (aM ad)) args s 0 0 (aM ad)) (F0 m 4 ls [])) (v1 : Int32) (v3 : Int32) (hf : p_X8_hasPlain_39 σ k4 v1 v3 = some res) (H : Heap) (locs : List Loc) (ls : Array Slot) (hP : va_P D vwCl (wM ad cI cJ cZ σ) H) (hS : va_S (aM ad) s.heap H locs) (hl : lv_has ls 4 [(0, .ref (ad 0)), (1, .int v1), (3, .int v3)]) : W p l e R s m args below meth c H locs 0 0 (MQ below (va_Qi (fun (r : Int32) (u : SS) => r = res ∧ u = σ) (fun u t => va_P D vwCl (wM ad cI cJ cZ u) t.heap) (aM ad)) args s 0 0 (aM ad)) (F0 m 39 ls []) := by
  obtain ⟨hx, hb, hr, hml, hown, hts, hlk⟩ := id hm
  unfold p_X8_hasPlain_39 at hf
  refine lv_iconst (v := 0) hx hb dX8_hasPlain_39 (by decide) ?_
  exact w_X8_hasPlain_40 hm hR hK hD σ k4 hk4 v1 v3 0 hf _ _ _ hP hS (lv_sub hl [0, 1, 2] rfl)
def p_X8_hasPlain_4 (σ : SS) : Nat → Int32 → Int32 → Int32 → Option (Int32)
  | 0, _, _, _ => none
  | n + 1, v1, v2, v3 => let k4 := p_X8_hasPlain_4 σ n; if (σ.1 0 5) ≤ v3 then ob v2 (some v2) else if v2 = 0 then oi v3 48 (if (σ.1 5 v3.toNatClampNeg) = v1 then oi v3 48 (if (σ.1 7 v3.toNatClampNeg) = 0 then p_X8_hasPlain_35 σ k4 v1 v3 else p_X8_hasPlain_39 σ k4 v1 v3) else p_X8_hasPlain_39 σ k4 v1 v3) else p_X8_hasPlain_35 σ k4 v1 v3
set_option maxHeartbeats 4000000 in
set_option maxRecDepth 100000 in
theorem w_X8_hasPlain_4 {p : Program} {l : Launch} {e : Env} {R : Room} {s : State} {m : MethodId} {args : Array Value} {below : List Frame} {meth : Method} {c : Code} {D : va_G} {ad : Nat → Nat} {cI cJ cZ : ClassId} {res : Int32} (hm : mx p s m args meth c cX8_hasPlain 4 (some .boolean) wsX8_hasPlain RX8) (hR : 0 ≤ R.frames ∧ 0 ≤ R.locals) (hK : va_K D vwCl (tyw cI cJ cZ) s) (hD : ∀ σ, va_D (aM ad) (wM ad cI cJ cZ σ)) (σ : SS) : ∀ (n : Nat) (v1 : Int32) (v2 : Int32) (v3 : Int32), p_X8_hasPlain_4 σ n v1 v2 v3 = some res → ∀ (H : Heap) (locs : List Loc) (ls : Array Slot), va_P D vwCl (wM ad cI cJ cZ σ) H → va_S (aM ad) s.heap H locs → lv_has ls 4 [(0, .ref (ad 0)), (1, .int v1), (2, .int v2), (3, .int v3)] → W p l e R s m args below meth c H locs 0 0 (MQ below (va_Qi (fun (r : Int32) (u : SS) => r = res ∧ u = σ) (fun u t => va_P D vwCl (wM ad cI cJ cZ u) t.heap) (aM ad)) args s 0 0 (aM ad)) (F0 m 4 ls []) := by
  obtain ⟨hx, hb, hr, hml, hown, hts, hlk⟩ := id hm
  intro n
  induction n with
  | zero =>
    intro _ _ _ hf
    cases hf
  | succ n hk4 =>
    intro v1 v2 v3 hf H locs ls hP hS hl
    rw [p_X8_hasPlain_4] at hf
    try dsimp only at hf
    refine lv_iload_n hx hb dX8_hasPlain_4 rfl (lv_at hl 3 rfl) ?_
    refine lv_aload_n hx hb dX8_hasPlain_5 rfl (lv_at hl 0 rfl) ?_
    refine va_get (D := D) (ci := 7) (v := .int (σ.1 0 5)) (C := RX8) (T := TX8) (N := 50) hx hb hts in_X8_hasPlain_X8 hown hK hP 0 (wM_0 _ _ _ _ _) rfl 5 (by decide) (hts (.fieldLink RX8 131 "CallGraphsModel" "members" "I") (List.mem_of_getElem? (i := 1) rfl)) (fun _ h9 => h9) (fM_0_5 _ _) dX8_hasPlain_6 ?_
    refine lv_icmp_ge (tgt := 47) hx hb dX8_hasPlain_9 (by decide) (fun c_9 => ?_) (fun c_9 => ?_)
    · rw [if_pos c_9] at hf
      refine lv_iload_n hx hb dX8_hasPlain_47 rfl (lv_at hl 2 rfl) ?_
      obtain ⟨h_48, hf⟩ := ob_e hf
      exact rt_z (wd := wM ad cI cJ cZ) hx hb hr hlk h_48 ⟨Option.some.inj hf, rfl⟩ hP hS dX8_hasPlain_48
    · rw [if_neg c_9] at hf
      refine lv_iload_n hx hb dX8_hasPlain_12 rfl (lv_at hl 2 rfl) ?_
      refine lv_if_ne (tgt := 35) hx hb dX8_hasPlain_13 (by decide) (fun c_13 => ?_) (fun c_13 => ?_)
      · rw [if_neg c_13] at hf
        exact w_X8_hasPlain_35 hm hR hK hD σ (p_X8_hasPlain_4 σ n) hk4 v1 v3 hf _ _ _ hP hS (lv_sub hl [0, 1, 3] rfl)
      · rw [if_pos c_13] at hf
        refine lv_aload_n hx hb dX8_hasPlain_16 rfl (lv_at hl 0 rfl) ?_
        refine va_get (D := D) (ci := 7) (v := .ref (ad 5)) (C := RX8) (T := TX8) (N := 50) hx hb hts in_X8_hasPlain_X8 hown hK hP 0 (wM_0 _ _ _ _ _) rfl 6 (by decide) (hts (.fieldLink RX8 22 "CallGraphsModel" "typeOf" "[I") (List.mem_of_getElem? (i := 2) rfl)) (fun _ h9 => h9) (fM_0_6 _ _) dX8_hasPlain_17 ?_
        refine lv_iload_n hx hb dX8_hasPlain_20 rfl (lv_at hl 3 rfl) ?_
        obtain ⟨h_21, hf⟩ := oi_e hf
        refine va_iald hx hb hK hP 5 0 (wM_5 _ _ _ _ _) rfl h_21 dX8_hasPlain_21 ?_
        refine lv_iload_n hx hb dX8_hasPlain_22 rfl (lv_at hl 1 rfl) ?_
        refine lv_icmp_ne (tgt := 39) hx hb dX8_hasPlain_23 (by decide) (fun c_23 => ?_) (fun c_23 => ?_)
        · rw [if_neg c_23] at hf
          exact w_X8_hasPlain_39 hm hR hK hD σ (p_X8_hasPlain_4 σ n) hk4 v1 v3 hf _ _ _ hP hS (lv_sub hl [0, 1, 3] rfl)
        · rw [if_pos c_23] at hf
          refine lv_aload_n hx hb dX8_hasPlain_26 rfl (lv_at hl 0 rfl) ?_
          refine va_get (D := D) (ci := 7) (v := .ref (ad 7)) (C := RX8) (T := TX8) (N := 50) hx hb hts in_X8_hasPlain_X8 hown hK hP 0 (wM_0 _ _ _ _ _) rfl 8 (by decide) (hts (.fieldLink RX8 28 "CallGraphsModel" "sortOf" "[I") (List.mem_of_getElem? (i := 3) rfl)) (fun _ h9 => h9) (fM_0_8 _ _) dX8_hasPlain_27 ?_
          refine lv_iload_n hx hb dX8_hasPlain_30 rfl (lv_at hl 3 rfl) ?_
          obtain ⟨h_31, hf⟩ := oi_e hf
          refine va_iald hx hb hK hP 7 0 (wM_7 _ _ _ _ _) rfl h_31 dX8_hasPlain_31 ?_
          refine lv_if_ne (tgt := 39) hx hb dX8_hasPlain_32 (by decide) (fun c_32 => ?_) (fun c_32 => ?_)
          · rw [if_neg c_32] at hf
            exact w_X8_hasPlain_39 hm hR hK hD σ (p_X8_hasPlain_4 σ n) hk4 v1 v3 hf _ _ _ hP hS (lv_sub hl [0, 1, 3] rfl)
          · rw [if_pos c_32] at hf
            exact w_X8_hasPlain_35 hm hR hK hD σ (p_X8_hasPlain_4 σ n) hk4 v1 v3 hf _ _ _ hP hS (lv_sub hl [0, 1, 3] rfl)
def p_X8_hasPlain_0 (σ : SS) (v1 : Int32) : Option (Int32) := p_X8_hasPlain_4 σ 100000 v1 0 0
set_option maxHeartbeats 4000000 in
set_option maxRecDepth 100000 in
theorem w_X8_hasPlain_0 {p : Program} {l : Launch} {e : Env} {R : Room} {s : State} {m : MethodId} {args : Array Value} {below : List Frame} {meth : Method} {c : Code} {D : va_G} {ad : Nat → Nat} {cI cJ cZ : ClassId} {res : Int32} (hm : mx p s m args meth c cX8_hasPlain 4 (some .boolean) wsX8_hasPlain RX8) (hR : 0 ≤ R.frames ∧ 0 ≤ R.locals) (hK : va_K D vwCl (tyw cI cJ cZ) s) (hD : ∀ σ, va_D (aM ad) (wM ad cI cJ cZ σ)) (σ : SS) (v1 : Int32) (hf : p_X8_hasPlain_0 σ v1 = some res) (H : Heap) (locs : List Loc) (ls : Array Slot) (hP : va_P D vwCl (wM ad cI cJ cZ σ) H) (hS : va_S (aM ad) s.heap H locs) (hl : lv_has ls 4 [(0, .ref (ad 0)), (1, .int v1)]) : W p l e R s m args below meth c H locs 0 0 (MQ below (va_Qi (fun (r : Int32) (u : SS) => r = res ∧ u = σ) (fun u t => va_P D vwCl (wM ad cI cJ cZ u) t.heap) (aM ad)) args s 0 0 (aM ad)) (F0 m 0 ls []) := by
  obtain ⟨hx, hb, hr, hml, hown, hts, hlk⟩ := id hm
  unfold p_X8_hasPlain_0 at hf
  refine lv_iconst (v := 0) hx hb dX8_hasPlain_0 (by decide) ?_
  refine lv_istore_n (lv' := [(2, .int 0), (0, .ref (ad 0)), (1, .int v1)]) hx hb dX8_hasPlain_1 rfl hl (by decide) rfl (fun ls hl => ?_)
  refine lv_iconst (v := 0) hx hb dX8_hasPlain_2 (by decide) ?_
  refine lv_istore_n (lv' := [(3, .int 0), (2, .int 0), (0, .ref (ad 0)), (1, .int v1)]) hx hb dX8_hasPlain_3 rfl hl (by decide) rfl (fun ls hl => ?_)
  exact w_X8_hasPlain_4 hm hR hK hD σ 100000 v1 0 0 hf _ _ _ hP hS (lv_sub hl [2, 3, 1, 0] rfl)
theorem hd_X8_hasPlain : yX8_hasPlain.cls = RX8 ∧ yX8_hasPlain.cls ≠ "java/lang/invoke/MethodHandle" ∧ yX8_hasPlain.cls ≠ "java/lang/invoke/VarHandle" ∧ (parseMethodDescriptor yX8_hasPlain.desc).map (fun d => d.parameters.length) = some 1 := by decide +kernel
set_option maxHeartbeats 4000000 in
set_option maxRecDepth 100000 in
theorem c_X8_hasPlain (l : Launch) (D : va_G) (ad : Nat → Nat) (cI cJ cZ : ClassId) (σ : SS) (v1 : Int32) {res : Int32} (hf : p_X8_hasPlain_0 σ v1 = some res) : Met l yX8_hasPlain wsX8_hasPlain ({ frames := 0, cells := 0, slots := 0, locals := 0 } : Room) (PW D (tyw cI cJ cZ) (wM ad cI cJ cZ σ) [.ref (ad 0), .int v1]) (va_Qi (fun (r : Int32) (u : SS) => r = res ∧ u = σ) (fun u t => va_P D vwCl (wM ad cI cJ cZ u) t.heap) (aM ad)) 0 0 (aM ad) := by
  refine Met.ofW (cc := cX8_hasPlain) (maxL := 4) (ret := (some .boolean)) (by decide) rfl ?_
  intro p e s m args below meth c s₁ B hml hv
  obtain ⟨rfl, hP, hK, hD0⟩ := hv
  have hD : ∀ σ, va_D (aM ad) (wM ad cI cJ cZ σ) := fun σ => wd_D hD0 (wM_map _ _ _ _ _) (wM_map _ _ _ _ _)
  have hm : mx p s m _ meth c cX8_hasPlain 4 (some .boolean) wsX8_hasPlain RX8 := ⟨B.exec, B.bytes, B.returns, hml, findClass_of_methodNamed B.named, atoms_spec (ws := wsX8_hasPlain) B.pre, B.notSynchronized⟩
  have hl := lv_entry ([.ref (ad 0), .int v1]) (n := 4) (Nat.le_of_ble_eq_true rfl)
  rw [lg_entry_eq]
  generalize (lg_sl ([.ref (ad 0), .int v1]) ++ List.replicate (4 - (lg_sl ([.ref (ad 0), .int v1])).length) Slot.unset).toArray = ls at hl ⊢
  exact w_X8_hasPlain_0 hm ⟨Nat.le_refl _, Nat.le_refl _⟩ hK hD σ v1 hf _ _ _ hP va_S.rf hl
/-! CallGraphsModel.findWith(I)V -/
theorem in_X8_findWith_X8 : ∀ w ∈ u_ws RX8 TX8 50, w ∈ wsX8_findWith := fun w h => List.mem_cons_of_mem _ (List.mem_append_right _ h)
def p_X8_findWith_23 (k2 : Int32 → Int32 → SS → Option (SS)) (v1 : Int32) (v2 : Int32) (t0 : Int32) (t1 : Int32) (σ : SS) : Option (SS) := oi t1 16 (ob t0 (os (sI σ 24 (t1.toNatClampNeg) t0) (fun s_23 => k2 v1 (v2 + 1) s_23)))
set_option maxHeartbeats 4000000 in
set_option maxRecDepth 100000 in
theorem w_X8_findWith_23 {p : Program} {l : Launch} {e : Env} {R : Room} {s : State} {m : MethodId} {args : Array Value} {below : List Frame} {meth : Method} {c : Code} {D : va_G} {ad : Nat → Nat} {cI cJ cZ : ClassId} {res : SS} (hm : mx p s m args meth c cX8_findWith 3 none wsX8_findWith RX8) (hR : 2 ≤ R.frames ∧ 47 ≤ R.locals) (hK : va_K D vwCl (tyw cI cJ cZ) s) (hD : ∀ σ, va_D (aM ad) (wM ad cI cJ cZ σ)) (k2 : Int32 → Int32 → SS → Option (SS)) (hk2 : ∀ (v1 : Int32) (v2 : Int32) (σ : SS), k2 v1 v2 σ = some res → ∀ (H : Heap) (locs : List Loc) (ls : Array Slot), va_P D vwCl (wM ad cI cJ cZ σ) H → va_S (aM ad) s.heap H locs → lv_has ls 3 [(0, .ref (ad 0)), (1, .int v1), (2, .int v2)] → W p l e R s m args below meth c H locs 0 0 (MQ below (va_Qv (fun (u : SS) => u = res) (fun u t => va_P D vwCl (wM ad cI cJ cZ u) t.heap) (aM ad)) args s 0 0 (aM ad)) (F0 m 2 ls [])) (v1 : Int32) (v2 : Int32) (t0 : Int32) (t1 : Int32) (σ : SS) (hf : p_X8_findWith_23 k2 v1 v2 t0 t1 σ = some res) (H : Heap) (locs : List Loc) (ls : Array Slot) (hP : va_P D vwCl (wM ad cI cJ cZ σ) H) (hS : va_S (aM ad) s.heap H locs) (hl : lv_has ls 3 [(0, .ref (ad 0)), (1, .int v1), (2, .int v2)]) : W p l e R s m args below meth c H locs 0 0 (MQ below (va_Qv (fun (u : SS) => u = res) (fun u t => va_P D vwCl (wM ad cI cJ cZ u) t.heap) (aM ad)) args s 0 0 (aM ad)) (F0 m 23 ls [.int t0, .int t1, .ref (ad 24)]) := by
  obtain ⟨hx, hb, hr, hml, hown, hts, hlk⟩ := id hm
  unfold p_X8_findWith_23 at hf
  obtain ⟨h_23, hf⟩ := oi_e hf
  obtain ⟨hb_23, hf⟩ := ob_e hf
  refine va_zast hx hb hK hP (hD _) hS 24 2 (wM_24 _ _ _ _ _) rfl h_23 dX8_findWith_23 (fun H locs hP _ hS => ?_)
  rw [nb_a hb_23] at hP
  have hP := wM_s24 hP
  obtain ⟨s_23, es_23, hf⟩ := os_e hf
  rw [← es_23] at hP
  refine lv_iinc (v := (v2 + 1)) (lv' := [(2, .int (v2 + 1)), (0, .ref (ad 0)), (1, .int v1)]) hx hb dX8_findWith_24 hl (k := 2) rfl rfl (by decide) rfl (fun ls hl => ?_)
  refine lv_goto (tgt := 2) hx hb dX8_findWith_27 (by decide) ?_
  exact hk2 v1 (v2 + 1) s_23 hf _ _ _ hP hS (lv_sub hl [1, 2, 0] rfl)
def p_X8_findWith_96 (k32 : Int32 → Int32 → SS → Option (SS)) (v1 : Int32) (v2 : Int32) (t0 : Int32) (t1 : Int32) (σ : SS) : Option (SS) := oi t1 16 (ob t0 (os (sI σ 24 (t1.toNatClampNeg) t0) (fun s_96 => k32 v1 (v2 + 1) s_96)))
set_option maxHeartbeats 4000000 in
set_option maxRecDepth 100000 in
theorem w_X8_findWith_96 {p : Program} {l : Launch} {e : Env} {R : Room} {s : State} {m : MethodId} {args : Array Value} {below : List Frame} {meth : Method} {c : Code} {D : va_G} {ad : Nat → Nat} {cI cJ cZ : ClassId} {res : SS} (hm : mx p s m args meth c cX8_findWith 3 none wsX8_findWith RX8) (hR : 2 ≤ R.frames ∧ 47 ≤ R.locals) (hK : va_K D vwCl (tyw cI cJ cZ) s) (hD : ∀ σ, va_D (aM ad) (wM ad cI cJ cZ σ)) (k32 : Int32 → Int32 → SS → Option (SS)) (hk32 : ∀ (v1 : Int32) (v2 : Int32) (σ : SS), k32 v1 v2 σ = some res → ∀ (H : Heap) (locs : List Loc) (ls : Array Slot), va_P D vwCl (wM ad cI cJ cZ σ) H → va_S (aM ad) s.heap H locs → lv_has ls 3 [(0, .ref (ad 0)), (1, .int v1), (2, .int v2)] → W p l e R s m args below meth c H locs 0 0 (MQ below (va_Qv (fun (u : SS) => u = res) (fun u t => va_P D vwCl (wM ad cI cJ cZ u) t.heap) (aM ad)) args s 0 0 (aM ad)) (F0 m 32 ls [])) (v1 : Int32) (v2 : Int32) (t0 : Int32) (t1 : Int32) (σ : SS) (hf : p_X8_findWith_96 k32 v1 v2 t0 t1 σ = some res) (H : Heap) (locs : List Loc) (ls : Array Slot) (hP : va_P D vwCl (wM ad cI cJ cZ σ) H) (hS : va_S (aM ad) s.heap H locs) (hl : lv_has ls 3 [(0, .ref (ad 0)), (1, .int v1), (2, .int v2)]) : W p l e R s m args below meth c H locs 0 0 (MQ below (va_Qv (fun (u : SS) => u = res) (fun u t => va_P D vwCl (wM ad cI cJ cZ u) t.heap) (aM ad)) args s 0 0 (aM ad)) (F0 m 96 ls [.int t0, .int t1, .ref (ad 24)]) := by
  obtain ⟨hx, hb, hr, hml, hown, hts, hlk⟩ := id hm
  unfold p_X8_findWith_96 at hf
  obtain ⟨h_96, hf⟩ := oi_e hf
  obtain ⟨hb_96, hf⟩ := ob_e hf
  refine va_zast hx hb hK hP (hD _) hS 24 2 (wM_24 _ _ _ _ _) rfl h_96 dX8_findWith_96 (fun H locs hP _ hS => ?_)
  rw [nb_a hb_96] at hP
  have hP := wM_s24 hP
  obtain ⟨s_96, es_96, hf⟩ := os_e hf
  rw [← es_96] at hP
  refine lv_iinc (v := (v2 + 1)) (lv' := [(2, .int (v2 + 1)), (0, .ref (ad 0)), (1, .int v1)]) hx hb dX8_findWith_97 hl (k := 2) rfl rfl (by decide) rfl (fun ls hl => ?_)
  refine lv_goto (tgt := 32) hx hb dX8_findWith_100 (by decide) ?_
  exact hk32 v1 (v2 + 1) s_96 hf _ _ _ hP hS (lv_sub hl [1, 2, 0] rfl)
def p_X8_findWith_91 (k32 : Int32 → Int32 → SS → Option (SS)) (v1 : Int32) (v2 : Int32) (t0 : Int32) (σ : SS) : Option (SS) := p_X8_findWith_96 k32 v1 v2 1 t0 σ
set_option maxHeartbeats 4000000 in
set_option maxRecDepth 100000 in
theorem w_X8_findWith_91 {p : Program} {l : Launch} {e : Env} {R : Room} {s : State} {m : MethodId} {args : Array Value} {below : List Frame} {meth : Method} {c : Code} {D : va_G} {ad : Nat → Nat} {cI cJ cZ : ClassId} {res : SS} (hm : mx p s m args meth c cX8_findWith 3 none wsX8_findWith RX8) (hR : 2 ≤ R.frames ∧ 47 ≤ R.locals) (hK : va_K D vwCl (tyw cI cJ cZ) s) (hD : ∀ σ, va_D (aM ad) (wM ad cI cJ cZ σ)) (k32 : Int32 → Int32 → SS → Option (SS)) (hk32 : ∀ (v1 : Int32) (v2 : Int32) (σ : SS), k32 v1 v2 σ = some res → ∀ (H : Heap) (locs : List Loc) (ls : Array Slot), va_P D vwCl (wM ad cI cJ cZ σ) H → va_S (aM ad) s.heap H locs → lv_has ls 3 [(0, .ref (ad 0)), (1, .int v1), (2, .int v2)] → W p l e R s m args below meth c H locs 0 0 (MQ below (va_Qv (fun (u : SS) => u = res) (fun u t => va_P D vwCl (wM ad cI cJ cZ u) t.heap) (aM ad)) args s 0 0 (aM ad)) (F0 m 32 ls [])) (v1 : Int32) (v2 : Int32) (t0 : Int32) (σ : SS) (hf : p_X8_findWith_91 k32 v1 v2 t0 σ = some res) (H : Heap) (locs : List Loc) (ls : Array Slot) (hP : va_P D vwCl (wM ad cI cJ cZ σ) H) (hS : va_S (aM ad) s.heap H locs) (hl : lv_has ls 3 [(0, .ref (ad 0)), (1, .int v1), (2, .int v2)]) : W p l e R s m args below meth c H locs 0 0 (MQ below (va_Qv (fun (u : SS) => u = res) (fun u t => va_P D vwCl (wM ad cI cJ cZ u) t.heap) (aM ad)) args s 0 0 (aM ad)) (F0 m 91 ls [.int t0, .ref (ad 24)]) := by
  obtain ⟨hx, hb, hr, hml, hown, hts, hlk⟩ := id hm
  unfold p_X8_findWith_91 at hf
  refine lv_iconst (v := 1) hx hb dX8_findWith_91 (by decide) ?_
  refine lv_goto (tgt := 96) hx hb dX8_findWith_92 (by decide) ?_
  exact w_X8_findWith_96 hm hR hK hD k32 hk32 v1 v2 1 t0 σ hf _ _ _ hP hS (lv_sub hl [0, 1, 2] rfl)
def p_X8_findWith_95 (k32 : Int32 → Int32 → SS → Option (SS)) (v1 : Int32) (v2 : Int32) (t0 : Int32) (σ : SS) : Option (SS) := p_X8_findWith_96 k32 v1 v2 0 t0 σ
set_option maxHeartbeats 4000000 in
set_option maxRecDepth 100000 in
theorem w_X8_findWith_95 {p : Program} {l : Launch} {e : Env} {R : Room} {s : State} {m : MethodId} {args : Array Value} {below : List Frame} {meth : Method} {c : Code} {D : va_G} {ad : Nat → Nat} {cI cJ cZ : ClassId} {res : SS} (hm : mx p s m args meth c cX8_findWith 3 none wsX8_findWith RX8) (hR : 2 ≤ R.frames ∧ 47 ≤ R.locals) (hK : va_K D vwCl (tyw cI cJ cZ) s) (hD : ∀ σ, va_D (aM ad) (wM ad cI cJ cZ σ)) (k32 : Int32 → Int32 → SS → Option (SS)) (hk32 : ∀ (v1 : Int32) (v2 : Int32) (σ : SS), k32 v1 v2 σ = some res → ∀ (H : Heap) (locs : List Loc) (ls : Array Slot), va_P D vwCl (wM ad cI cJ cZ σ) H → va_S (aM ad) s.heap H locs → lv_has ls 3 [(0, .ref (ad 0)), (1, .int v1), (2, .int v2)] → W p l e R s m args below meth c H locs 0 0 (MQ below (va_Qv (fun (u : SS) => u = res) (fun u t => va_P D vwCl (wM ad cI cJ cZ u) t.heap) (aM ad)) args s 0 0 (aM ad)) (F0 m 32 ls [])) (v1 : Int32) (v2 : Int32) (t0 : Int32) (σ : SS) (hf : p_X8_findWith_95 k32 v1 v2 t0 σ = some res) (H : Heap) (locs : List Loc) (ls : Array Slot) (hP : va_P D vwCl (wM ad cI cJ cZ σ) H) (hS : va_S (aM ad) s.heap H locs) (hl : lv_has ls 3 [(0, .ref (ad 0)), (1, .int v1), (2, .int v2)]) : W p l e R s m args below meth c H locs 0 0 (MQ below (va_Qv (fun (u : SS) => u = res) (fun u t => va_P D vwCl (wM ad cI cJ cZ u) t.heap) (aM ad)) args s 0 0 (aM ad)) (F0 m 95 ls [.int t0, .ref (ad 24)]) := by
  obtain ⟨hx, hb, hr, hml, hown, hts, hlk⟩ := id hm
  unfold p_X8_findWith_95 at hf
  refine lv_iconst (v := 0) hx hb dX8_findWith_95 (by decide) ?_
  exact w_X8_findWith_96 hm hR hK hD k32 hk32 v1 v2 0 t0 σ hf _ _ _ hP hS (lv_sub hl [0, 1, 2] rfl)
def p_X8_findWith_103 (σ : SS) : Option (SS) := some σ
set_option maxHeartbeats 4000000 in
set_option maxRecDepth 100000 in
theorem w_X8_findWith_103 {p : Program} {l : Launch} {e : Env} {R : Room} {s : State} {m : MethodId} {args : Array Value} {below : List Frame} {meth : Method} {c : Code} {D : va_G} {ad : Nat → Nat} {cI cJ cZ : ClassId} {res : SS} (hm : mx p s m args meth c cX8_findWith 3 none wsX8_findWith RX8) (hR : 2 ≤ R.frames ∧ 47 ≤ R.locals) (hK : va_K D vwCl (tyw cI cJ cZ) s) (hD : ∀ σ, va_D (aM ad) (wM ad cI cJ cZ σ)) (σ : SS) (hf : p_X8_findWith_103 σ = some res) (H : Heap) (locs : List Loc) (ls : Array Slot) (hP : va_P D vwCl (wM ad cI cJ cZ σ) H) (hS : va_S (aM ad) s.heap H locs) (hl : lv_has ls 3 []) : W p l e R s m args below meth c H locs 0 0 (MQ below (va_Qv (fun (u : SS) => u = res) (fun u t => va_P D vwCl (wM ad cI cJ cZ u) t.heap) (aM ad)) args s 0 0 (aM ad)) (F0 m 103 ls []) := by
  obtain ⟨hx, hb, hr, hml, hown, hts, hlk⟩ := id hm
  unfold p_X8_findWith_103 at hf
  exact rt_v (wd := wM ad cI cJ cZ) hx hb hr hlk (Option.some.inj hf) hP hS dX8_findWith_103
def p_X8_findWith_32 : Nat → Int32 → Int32 → SS → Option (SS)
  | 0, _, _, _ => none
  | n + 1, v1, v2, σ => let k32 := p_X8_findWith_32 n; if (σ.1 0 0) ≤ v2 then p_X8_findWith_103 σ else oi v1 16 (if (σ.1 1 v1.toNatClampNeg) = 2 then p_X8_findWith_103 σ else oi v2 16 (if (σ.1 24 v2.toNatClampNeg) = 0 then oc (p_X8_isUnder_0 v1 v2 σ) (fun r_67 => if r_67.1 = 0 then p_X8_findWith_95 k32 v1 v2 v2 r_67.2 else oi v2 16 (if (r_67.2.1 1 v2.toNatClampNeg) = 2 then oc (p_X8_hasPlain_0 r_67.2 v2) (fun r_85 => if r_85 = 0 then p_X8_findWith_95 k32 v1 v2 v2 r_67.2 else p_X8_findWith_91 k32 v1 v2 v2 r_67.2) else p_X8_findWith_91 k32 v1 v2 v2 r_67.2)) else p_X8_findWith_91 k32 v1 v2 v2 σ))
set_option maxHeartbeats 4000000 in
set_option maxRecDepth 100000 in
theorem w_X8_findWith_32 {p : Program} {l : Launch} {e : Env} {R : Room} {s : State} {m : MethodId} {args : Array Value} {below : List Frame} {meth : Method} {c : Code} {D : va_G} {ad : Nat → Nat} {cI cJ cZ : ClassId} {res : SS} (hm : mx p s m args meth c cX8_findWith 3 none wsX8_findWith RX8) (hR : 2 ≤ R.frames ∧ 47 ≤ R.locals) (hK : va_K D vwCl (tyw cI cJ cZ) s) (hD : ∀ σ, va_D (aM ad) (wM ad cI cJ cZ σ)) : ∀ (n : Nat) (v1 : Int32) (v2 : Int32) (σ : SS), p_X8_findWith_32 n v1 v2 σ = some res → ∀ (H : Heap) (locs : List Loc) (ls : Array Slot), va_P D vwCl (wM ad cI cJ cZ σ) H → va_S (aM ad) s.heap H locs → lv_has ls 3 [(0, .ref (ad 0)), (1, .int v1), (2, .int v2)] → W p l e R s m args below meth c H locs 0 0 (MQ below (va_Qv (fun (u : SS) => u = res) (fun u t => va_P D vwCl (wM ad cI cJ cZ u) t.heap) (aM ad)) args s 0 0 (aM ad)) (F0 m 32 ls []) := by
  obtain ⟨hx, hb, hr, hml, hown, hts, hlk⟩ := id hm
  intro n
  induction n with
  | zero =>
    intro _ _ _ hf
    cases hf
  | succ n hk32 =>
    intro v1 v2 σ hf H locs ls hP hS hl
    rw [p_X8_findWith_32] at hf
    try dsimp only at hf
    refine lv_iload_n hx hb dX8_findWith_32 rfl (lv_at hl 2 rfl) ?_
    refine lv_aload_n hx hb dX8_findWith_33 rfl (lv_at hl 0 rfl) ?_
    refine va_get (D := D) (ci := 7) (v := .int (σ.1 0 0)) (C := RX8) (T := TX8) (N := 50) hx hb hts in_X8_findWith_X8 hown hK hP 0 (wM_0 _ _ _ _ _) rfl 0 (by decide) (hts (.fieldLink RX8 123 "CallGraphsModel" "types" "I") (List.mem_of_getElem? (i := 2) rfl)) (fun _ h9 => h9) (fM_0_0 _ _) dX8_findWith_34 ?_
    refine lv_icmp_ge (tgt := 103) hx hb dX8_findWith_37 (by decide) (fun c_37 => ?_) (fun c_37 => ?_)
    · rw [if_pos c_37] at hf
      exact w_X8_findWith_103 hm hR hK hD σ hf _ _ _ hP hS (lv_sub hl [] rfl)
    · rw [if_neg c_37] at hf
      refine lv_aload_n hx hb dX8_findWith_40 rfl (lv_at hl 0 rfl) ?_
      refine va_get (D := D) (ci := 7) (v := .ref (ad 1)) (C := RX8) (T := TX8) (N := 50) hx hb hts in_X8_findWith_X8 hown hK hP 0 (wM_0 _ _ _ _ _) rfl 1 (by decide) (hts (.fieldLink RX8 7 "CallGraphsModel" "kindOf" "[I") (List.mem_of_getElem? (i := 3) rfl)) (fun _ h9 => h9) (fM_0_1 _ _) dX8_findWith_41 ?_
      refine lv_iload_n hx hb dX8_findWith_44 rfl (lv_at hl 1 rfl) ?_
      obtain ⟨h_45, hf⟩ := oi_e hf
      refine va_iald hx hb hK hP 1 0 (wM_1 _ _ _ _ _) rfl h_45 dX8_findWith_45 ?_
      refine lv_iconst (v := 2) hx hb dX8_findWith_46 (by decide) ?_
      refine lv_icmp_eq (tgt := 103) hx hb dX8_findWith_47 (by decide) (fun c_47 => ?_) (fun c_47 => ?_)
      · rw [if_pos c_47] at hf
        exact w_X8_findWith_103 hm hR hK hD σ hf _ _ _ hP hS (lv_sub hl [] rfl)
      · rw [if_neg c_47] at hf
        refine lv_aload_n hx hb dX8_findWith_50 rfl (lv_at hl 0 rfl) ?_
        refine va_get (D := D) (ci := 7) (v := .ref (ad 24)) (C := RX8) (T := TX8) (N := 50) hx hb hts in_X8_findWith_X8 hown hK hP 0 (wM_0 _ _ _ _ _) rfl 29 (by decide) (hts (.fieldLink RX8 80 "CallGraphsModel" "withIt" "[Z") (List.mem_of_getElem? (i := 1) rfl)) (fun _ h9 => h9) (fM_0_29 _ _) dX8_findWith_51 ?_
        refine lv_iload_n hx hb dX8_findWith_54 rfl (lv_at hl 2 rfl) ?_
        refine lv_aload_n hx hb dX8_findWith_55 rfl (lv_at hl 0 rfl) ?_
        refine va_get (D := D) (ci := 7) (v := .ref (ad 24)) (C := RX8) (T := TX8) (N := 50) hx hb hts in_X8_findWith_X8 hown hK hP 0 (wM_0 _ _ _ _ _) rfl 29 (by decide) (hts (.fieldLink RX8 80 "CallGraphsModel" "withIt" "[Z") (List.mem_of_getElem? (i := 1) rfl)) (fun _ h9 => h9) (fM_0_29 _ _) dX8_findWith_56 ?_
        refine lv_iload_n hx hb dX8_findWith_59 rfl (lv_at hl 2 rfl) ?_
        obtain ⟨h_60, hf⟩ := oi_e hf
        refine va_zald hx hb hK hP 24 2 (wM_24 _ _ _ _ _) rfl h_60 dX8_findWith_60 ?_
        refine lv_if_ne (tgt := 91) hx hb dX8_findWith_61 (by decide) (fun c_61 => ?_) (fun c_61 => ?_)
        · rw [if_neg c_61] at hf
          exact w_X8_findWith_91 hm hR hK hD (p_X8_findWith_32 n) hk32 v1 v2 v2 σ hf _ _ _ hP hS (lv_sub hl [0, 1, 2] rfl)
        · rw [if_pos c_61] at hf
          refine lv_aload_n hx hb dX8_findWith_64 rfl (lv_at hl 0 rfl) ?_
          refine lv_iload_n hx hb dX8_findWith_65 rfl (lv_at hl 1 rfl) ?_
          refine lv_iload_n hx hb dX8_findWith_66 rfl (lv_at hl 2 rfl) ?_
          obtain ⟨r_67, hg_67, hf⟩ := oc_e hf
          refine mV_wi (wd := wM ad cI cJ cZ) (σ := σ) (As := [.int v1, .int v2]) (rest := [.int v2, .ref (ad 24)]) ⟨hx, hb, hml, hown, hts⟩ hK hP hD hS (c_X8_isUnder l D ad cI cJ cZ σ v1 v2 hg_67) (cwV 2 hts gX8_findWith_X8_isUnder rfl rfl rfl hd_X8_isUnder ⟨Nat.le_trans (Nat.le_of_ble_eq_true rfl) hR.1, Nat.le_trans (Nat.le_of_ble_eq_true rfl) hR.2⟩) rfl (wM_0 _ _ _ _ _) rfl hl.1 rfl (Nat.le_of_ble_eq_true rfl) dX8_findWith_67 (fun H locs hP hS => ?_)
          refine lv_if_eq (tgt := 95) hx hb dX8_findWith_70 (by decide) (fun c_70 => ?_) (fun c_70 => ?_)
          · rw [if_pos c_70] at hf
            exact w_X8_findWith_95 hm hR hK hD (p_X8_findWith_32 n) hk32 v1 v2 v2 r_67.2 hf _ _ _ hP hS (lv_sub hl [0, 1, 2] rfl)
          · rw [if_neg c_70] at hf
            refine lv_aload_n hx hb dX8_findWith_73 rfl (lv_at hl 0 rfl) ?_
            refine va_get (D := D) (ci := 7) (v := .ref (ad 1)) (C := RX8) (T := TX8) (N := 50) hx hb hts in_X8_findWith_X8 hown hK hP 0 (wM_0 _ _ _ _ _) rfl 1 (by decide) (hts (.fieldLink RX8 7 "CallGraphsModel" "kindOf" "[I") (List.mem_of_getElem? (i := 3) rfl)) (fun _ h9 => h9) (fM_0_1 _ _) dX8_findWith_74 ?_
            refine lv_iload_n hx hb dX8_findWith_77 rfl (lv_at hl 2 rfl) ?_
            obtain ⟨h_78, hf⟩ := oi_e hf
            refine va_iald hx hb hK hP 1 0 (wM_1 _ _ _ _ _) rfl h_78 dX8_findWith_78 ?_
            refine lv_iconst (v := 2) hx hb dX8_findWith_79 (by decide) ?_
            refine lv_icmp_ne (tgt := 91) hx hb dX8_findWith_80 (by decide) (fun c_80 => ?_) (fun c_80 => ?_)
            · rw [if_neg c_80] at hf
              exact w_X8_findWith_91 hm hR hK hD (p_X8_findWith_32 n) hk32 v1 v2 v2 r_67.2 hf _ _ _ hP hS (lv_sub hl [0, 1, 2] rfl)
            · rw [if_pos c_80] at hf
              refine lv_aload_n hx hb dX8_findWith_83 rfl (lv_at hl 0 rfl) ?_
              refine lv_iload_n hx hb dX8_findWith_84 rfl (lv_at hl 2 rfl) ?_
              obtain ⟨r_85, hg_85, hf⟩ := oc_e hf
              refine mV_ri (wd := wM ad cI cJ cZ) (σ := r_67.2) (As := [.int v2]) (rest := [.int v2, .ref (ad 24)]) ⟨hx, hb, hml, hown, hts⟩ hK hP hD hS (c_X8_hasPlain l D ad cI cJ cZ r_67.2 v2 hg_85) (cwV 1 hts gX8_findWith_X8_hasPlain rfl rfl rfl hd_X8_hasPlain ⟨Nat.le_trans (Nat.le_of_ble_eq_true rfl) hR.1, Nat.le_trans (Nat.le_of_ble_eq_true rfl) hR.2⟩) rfl (wM_0 _ _ _ _ _) rfl hl.1 rfl (Nat.le_of_ble_eq_true rfl) dX8_findWith_85 (fun H locs hP hS => ?_)
              refine lv_if_eq (tgt := 95) hx hb dX8_findWith_88 (by decide) (fun c_88 => ?_) (fun c_88 => ?_)
              · rw [if_pos c_88] at hf
                exact w_X8_findWith_95 hm hR hK hD (p_X8_findWith_32 n) hk32 v1 v2 v2 r_67.2 hf _ _ _ hP hS (lv_sub hl [0, 1, 2] rfl)
              · rw [if_neg c_88] at hf
                exact w_X8_findWith_91 hm hR hK hD (p_X8_findWith_32 n) hk32 v1 v2 v2 r_67.2 hf _ _ _ hP hS (lv_sub hl [0, 1, 2] rfl)
def p_X8_findWith_2 : Nat → Int32 → Int32 → SS → Option (SS)
  | 0, _, _, _ => none
  | n + 1, v1, v2, σ => let k2 := p_X8_findWith_2 n; if 16 ≤ v2 then p_X8_findWith_32 100000 v1 0 σ else if v2 = v1 then p_X8_findWith_23 k2 v1 v2 1 v2 σ else p_X8_findWith_23 k2 v1 v2 0 v2 σ
set_option maxHeartbeats 4000000 in
set_option maxRecDepth 100000 in
theorem w_X8_findWith_2 {p : Program} {l : Launch} {e : Env} {R : Room} {s : State} {m : MethodId} {args : Array Value} {below : List Frame} {meth : Method} {c : Code} {D : va_G} {ad : Nat → Nat} {cI cJ cZ : ClassId} {res : SS} (hm : mx p s m args meth c cX8_findWith 3 none wsX8_findWith RX8) (hR : 2 ≤ R.frames ∧ 47 ≤ R.locals) (hK : va_K D vwCl (tyw cI cJ cZ) s) (hD : ∀ σ, va_D (aM ad) (wM ad cI cJ cZ σ)) : ∀ (n : Nat) (v1 : Int32) (v2 : Int32) (σ : SS), p_X8_findWith_2 n v1 v2 σ = some res → ∀ (H : Heap) (locs : List Loc) (ls : Array Slot), va_P D vwCl (wM ad cI cJ cZ σ) H → va_S (aM ad) s.heap H locs → lv_has ls 3 [(0, .ref (ad 0)), (1, .int v1), (2, .int v2)] → W p l e R s m args below meth c H locs 0 0 (MQ below (va_Qv (fun (u : SS) => u = res) (fun u t => va_P D vwCl (wM ad cI cJ cZ u) t.heap) (aM ad)) args s 0 0 (aM ad)) (F0 m 2 ls []) := by
  obtain ⟨hx, hb, hr, hml, hown, hts, hlk⟩ := id hm
  intro n
  induction n with
  | zero =>
    intro _ _ _ hf
    cases hf
  | succ n hk2 =>
    intro v1 v2 σ hf H locs ls hP hS hl
    rw [p_X8_findWith_2] at hf
    try dsimp only at hf
    refine lv_iload_n hx hb dX8_findWith_2 rfl (lv_at hl 2 rfl) ?_
    refine lv_bipush (v := 16) hx hb dX8_findWith_3 (by decide) ?_
    refine lv_icmp_ge (tgt := 30) hx hb dX8_findWith_5 (by decide) (fun c_5 => ?_) (fun c_5 => ?_)
    · rw [if_pos c_5] at hf
      refine lv_iconst (v := 0) hx hb dX8_findWith_30 (by decide) ?_
      refine lv_istore_n (lv' := [(2, .int 0), (0, .ref (ad 0)), (1, .int v1)]) hx hb dX8_findWith_31 rfl hl (by decide) rfl (fun ls hl => ?_)
      exact w_X8_findWith_32 hm hR hK hD 100000 v1 0 σ hf _ _ _ hP hS (lv_sub hl [1, 2, 0] rfl)
    · rw [if_neg c_5] at hf
      refine lv_aload_n hx hb dX8_findWith_8 rfl (lv_at hl 0 rfl) ?_
      refine va_get (D := D) (ci := 7) (v := .ref (ad 24)) (C := RX8) (T := TX8) (N := 50) hx hb hts in_X8_findWith_X8 hown hK hP 0 (wM_0 _ _ _ _ _) rfl 29 (by decide) (hts (.fieldLink RX8 80 "CallGraphsModel" "withIt" "[Z") (List.mem_of_getElem? (i := 1) rfl)) (fun _ h9 => h9) (fM_0_29 _ _) dX8_findWith_9 ?_
      refine lv_iload_n hx hb dX8_findWith_12 rfl (lv_at hl 2 rfl) ?_
      refine lv_iload_n hx hb dX8_findWith_13 rfl (lv_at hl 2 rfl) ?_
      refine lv_iload_n hx hb dX8_findWith_14 rfl (lv_at hl 1 rfl) ?_
      refine lv_icmp_ne (tgt := 22) hx hb dX8_findWith_15 (by decide) (fun c_15 => ?_) (fun c_15 => ?_)
      · rw [if_neg c_15] at hf
        refine lv_iconst (v := 0) hx hb dX8_findWith_22 (by decide) ?_
        exact w_X8_findWith_23 hm hR hK hD (p_X8_findWith_2 n) hk2 v1 v2 0 v2 σ hf _ _ _ hP hS (lv_sub hl [0, 1, 2] rfl)
      · rw [if_pos c_15] at hf
        refine lv_iconst (v := 1) hx hb dX8_findWith_18 (by decide) ?_
        refine lv_goto (tgt := 23) hx hb dX8_findWith_19 (by decide) ?_
        exact w_X8_findWith_23 hm hR hK hD (p_X8_findWith_2 n) hk2 v1 v2 1 v2 σ hf _ _ _ hP hS (lv_sub hl [0, 1, 2] rfl)
def p_X8_findWith_0 (v1 : Int32) (σ : SS) : Option (SS) := p_X8_findWith_2 100000 v1 0 σ
set_option maxHeartbeats 4000000 in
set_option maxRecDepth 100000 in
theorem w_X8_findWith_0 {p : Program} {l : Launch} {e : Env} {R : Room} {s : State} {m : MethodId} {args : Array Value} {below : List Frame} {meth : Method} {c : Code} {D : va_G} {ad : Nat → Nat} {cI cJ cZ : ClassId} {res : SS} (hm : mx p s m args meth c cX8_findWith 3 none wsX8_findWith RX8) (hR : 2 ≤ R.frames ∧ 47 ≤ R.locals) (hK : va_K D vwCl (tyw cI cJ cZ) s) (hD : ∀ σ, va_D (aM ad) (wM ad cI cJ cZ σ)) (v1 : Int32) (σ : SS) (hf : p_X8_findWith_0 v1 σ = some res) (H : Heap) (locs : List Loc) (ls : Array Slot) (hP : va_P D vwCl (wM ad cI cJ cZ σ) H) (hS : va_S (aM ad) s.heap H locs) (hl : lv_has ls 3 [(0, .ref (ad 0)), (1, .int v1)]) : W p l e R s m args below meth c H locs 0 0 (MQ below (va_Qv (fun (u : SS) => u = res) (fun u t => va_P D vwCl (wM ad cI cJ cZ u) t.heap) (aM ad)) args s 0 0 (aM ad)) (F0 m 0 ls []) := by
  obtain ⟨hx, hb, hr, hml, hown, hts, hlk⟩ := id hm
  unfold p_X8_findWith_0 at hf
  refine lv_iconst (v := 0) hx hb dX8_findWith_0 (by decide) ?_
  refine lv_istore_n (lv' := [(2, .int 0), (0, .ref (ad 0)), (1, .int v1)]) hx hb dX8_findWith_1 rfl hl (by decide) rfl (fun ls hl => ?_)
  exact w_X8_findWith_2 hm hR hK hD 100000 v1 0 σ hf _ _ _ hP hS (lv_sub hl [1, 2, 0] rfl)
theorem hd_X8_findWith : yX8_findWith.cls = RX8 ∧ yX8_findWith.cls ≠ "java/lang/invoke/MethodHandle" ∧ yX8_findWith.cls ≠ "java/lang/invoke/VarHandle" ∧ (parseMethodDescriptor yX8_findWith.desc).map (fun d => d.parameters.length) = some 1 := by decide +kernel
set_option maxHeartbeats 4000000 in
set_option maxRecDepth 100000 in
theorem c_X8_findWith (l : Launch) (D : va_G) (ad : Nat → Nat) (cI cJ cZ : ClassId) (σ : SS) (v1 : Int32) {res : SS} (hf : p_X8_findWith_0 v1 σ = some res) : Met l yX8_findWith wsX8_findWith ({ frames := 2, cells := 0, slots := 0, locals := 47 } : Room) (PW D (tyw cI cJ cZ) (wM ad cI cJ cZ σ) [.ref (ad 0), .int v1]) (va_Qv (fun (u : SS) => u = res) (fun u t => va_P D vwCl (wM ad cI cJ cZ u) t.heap) (aM ad)) 0 0 (aM ad) := by
  refine Met.ofW (cc := cX8_findWith) (maxL := 3) (ret := none) (by decide) rfl ?_
  intro p e s m args below meth c s₁ B hml hv
  obtain ⟨rfl, hP, hK, hD0⟩ := hv
  have hD : ∀ σ, va_D (aM ad) (wM ad cI cJ cZ σ) := fun σ => wd_D hD0 (wM_map _ _ _ _ _) (wM_map _ _ _ _ _)
  have hm : mx p s m _ meth c cX8_findWith 3 none wsX8_findWith RX8 := ⟨B.exec, B.bytes, B.returns, hml, findClass_of_methodNamed B.named, atoms_spec (ws := wsX8_findWith) B.pre, B.notSynchronized⟩
  have hl := lv_entry ([.ref (ad 0), .int v1]) (n := 3) (Nat.le_of_ble_eq_true rfl)
  rw [lg_entry_eq]
  generalize (lg_sl ([.ref (ad 0), .int v1]) ++ List.replicate (3 - (lg_sl ([.ref (ad 0), .int v1])).length) Slot.unset).toArray = ls at hl ⊢
  exact w_X8_findWith_0 hm ⟨Nat.le_refl _, Nat.le_refl _⟩ hK hD v1 σ hf _ _ _ hP va_S.rf hl
/-! CallGraphsModel.reach(I)V -/
theorem in_X8_reach_X8 : ∀ w ∈ u_ws RX8 TX8 50, w ∈ wsX8_reach := fun w h => List.mem_cons_of_mem _ (List.mem_append_right _ h)
def p_X8_reach_22 (v1 : Int32) (t0 : Int32) (σ : SS) : Option (SS) := ob t0 (os (sI σ 0 17 t0) (fun s_22 => oi v1 48 (os (sI s_22 14 (v1.toNatClampNeg) 1) (fun s_31 => some s_31))))
set_option maxHeartbeats 4000000 in
set_option maxRecDepth 100000 in
theorem w_X8_reach_22 {p : Program} {l : Launch} {e : Env} {R : Room} {s : State} {m : MethodId} {args : Array Value} {below : List Frame} {meth : Method} {c : Code} {D : va_G} {ad : Nat → Nat} {cI cJ cZ : ClassId} {res : SS} (hm : mx p s m args meth c cX8_reach 2 none wsX8_reach RX8) (hR : 0 ≤ R.frames ∧ 0 ≤ R.locals) (hK : va_K D vwCl (tyw cI cJ cZ) s) (hD : ∀ σ, va_D (aM ad) (wM ad cI cJ cZ σ)) (v1 : Int32) (t0 : Int32) (σ : SS) (hf : p_X8_reach_22 v1 t0 σ = some res) (H : Heap) (locs : List Loc) (ls : Array Slot) (hP : va_P D vwCl (wM ad cI cJ cZ σ) H) (hS : va_S (aM ad) s.heap H locs) (hl : lv_has ls 2 [(0, .ref (ad 0)), (1, .int v1)]) : W p l e R s m args below meth c H locs 0 0 (MQ below (va_Qv (fun (u : SS) => u = res) (fun u t => va_P D vwCl (wM ad cI cJ cZ u) t.heap) (aM ad)) args s 0 0 (aM ad)) (F0 m 22 ls [.int t0, .ref (ad 0)]) := by
  obtain ⟨hx, hb, hr, hml, hown, hts, hlk⟩ := id hm
  unfold p_X8_reach_22 at hf
  obtain ⟨h_22, hf⟩ := ob_e hf
  refine va_put (D := D) (ci := 7) (v := .int t0) (ty := .boolean) (C := RX8) (T := TX8) (N := 50) hx hb hts in_X8_reach_X8 tyX8 tyX8_ok nmX8 hown hK hP (hD _) hS 0 (wM_0 _ _ _ _ _) rfl 17 (by decide) (hts (.fieldLink RX8 186 "CallGraphsModel" "grew" "Z") (List.mem_of_getElem? (i := 1) rfl)) (fun _ h9 => h9) rfl (tyX8_ok 17 (by decide)) (nb_n h_22) (nb_f h_22) (Nat.le_of_ble_eq_true rfl) dX8_reach_22 (fun H locs hP _ hS => ?_)
  have hP := wM_p0_17 hP
  obtain ⟨s_22, es_22, hf⟩ := os_e hf
  rw [← es_22] at hP
  refine lv_aload_n hx hb dX8_reach_25 rfl (lv_at hl 0 rfl) ?_
  refine va_get (D := D) (ci := 7) (v := .ref (ad 14)) (C := RX8) (T := TX8) (N := 50) hx hb hts in_X8_reach_X8 hown hK hP 0 (wM_0 _ _ _ _ _) rfl 18 (by decide) (hts (.fieldLink RX8 50 "CallGraphsModel" "reached" "[Z") (List.mem_of_getElem? (i := 2) rfl)) (fun _ h9 => h9) (fM_0_18 _ _) dX8_reach_26 ?_
  refine lv_iload_n hx hb dX8_reach_29 rfl (lv_at hl 1 rfl) ?_
  refine lv_iconst (v := 1) hx hb dX8_reach_30 (by decide) ?_
  obtain ⟨h_31, hf⟩ := oi_e hf
  refine va_zast hx hb hK hP (hD _) hS 14 2 (wM_14 _ _ _ _ _) rfl h_31 dX8_reach_31 (fun H locs hP _ hS => ?_)
  rw [nb_a (Or.inr rfl)] at hP
  have hP := wM_s14 hP
  obtain ⟨s_31, es_31, hf⟩ := os_e hf
  rw [← es_31] at hP
  exact rt_v (wd := wM ad cI cJ cZ) hx hb hr hlk (Option.some.inj hf) hP hS dX8_reach_32
def p_X8_reach_17 (v1 : Int32) (σ : SS) : Option (SS) := p_X8_reach_22 v1 1 σ
set_option maxHeartbeats 4000000 in
set_option maxRecDepth 100000 in
theorem w_X8_reach_17 {p : Program} {l : Launch} {e : Env} {R : Room} {s : State} {m : MethodId} {args : Array Value} {below : List Frame} {meth : Method} {c : Code} {D : va_G} {ad : Nat → Nat} {cI cJ cZ : ClassId} {res : SS} (hm : mx p s m args meth c cX8_reach 2 none wsX8_reach RX8) (hR : 0 ≤ R.frames ∧ 0 ≤ R.locals) (hK : va_K D vwCl (tyw cI cJ cZ) s) (hD : ∀ σ, va_D (aM ad) (wM ad cI cJ cZ σ)) (v1 : Int32) (σ : SS) (hf : p_X8_reach_17 v1 σ = some res) (H : Heap) (locs : List Loc) (ls : Array Slot) (hP : va_P D vwCl (wM ad cI cJ cZ σ) H) (hS : va_S (aM ad) s.heap H locs) (hl : lv_has ls 2 [(0, .ref (ad 0)), (1, .int v1)]) : W p l e R s m args below meth c H locs 0 0 (MQ below (va_Qv (fun (u : SS) => u = res) (fun u t => va_P D vwCl (wM ad cI cJ cZ u) t.heap) (aM ad)) args s 0 0 (aM ad)) (F0 m 17 ls [.ref (ad 0)]) := by
  obtain ⟨hx, hb, hr, hml, hown, hts, hlk⟩ := id hm
  unfold p_X8_reach_17 at hf
  refine lv_iconst (v := 1) hx hb dX8_reach_17 (by decide) ?_
  refine lv_goto (tgt := 22) hx hb dX8_reach_18 (by decide) ?_
  exact w_X8_reach_22 hm hR hK hD v1 1 σ hf _ _ _ hP hS (lv_sub hl [0, 1] rfl)
def p_X8_reach_0 (v1 : Int32) (σ : SS) : Option (SS) := if (σ.1 0 17) = 0 then oi v1 48 (if (σ.1 14 v1.toNatClampNeg) = 0 then p_X8_reach_17 v1 σ else p_X8_reach_22 v1 0 σ) else p_X8_reach_17 v1 σ
set_option maxHeartbeats 4000000 in
set_option maxRecDepth 100000 in
theorem w_X8_reach_0 {p : Program} {l : Launch} {e : Env} {R : Room} {s : State} {m : MethodId} {args : Array Value} {below : List Frame} {meth : Method} {c : Code} {D : va_G} {ad : Nat → Nat} {cI cJ cZ : ClassId} {res : SS} (hm : mx p s m args meth c cX8_reach 2 none wsX8_reach RX8) (hR : 0 ≤ R.frames ∧ 0 ≤ R.locals) (hK : va_K D vwCl (tyw cI cJ cZ) s) (hD : ∀ σ, va_D (aM ad) (wM ad cI cJ cZ σ)) (v1 : Int32) (σ : SS) (hf : p_X8_reach_0 v1 σ = some res) (H : Heap) (locs : List Loc) (ls : Array Slot) (hP : va_P D vwCl (wM ad cI cJ cZ σ) H) (hS : va_S (aM ad) s.heap H locs) (hl : lv_has ls 2 [(0, .ref (ad 0)), (1, .int v1)]) : W p l e R s m args below meth c H locs 0 0 (MQ below (va_Qv (fun (u : SS) => u = res) (fun u t => va_P D vwCl (wM ad cI cJ cZ u) t.heap) (aM ad)) args s 0 0 (aM ad)) (F0 m 0 ls []) := by
  obtain ⟨hx, hb, hr, hml, hown, hts, hlk⟩ := id hm
  unfold p_X8_reach_0 at hf
  refine lv_aload_n hx hb dX8_reach_0 rfl (lv_at hl 0 rfl) ?_
  refine lv_aload_n hx hb dX8_reach_1 rfl (lv_at hl 0 rfl) ?_
  refine va_get (D := D) (ci := 7) (v := .int (σ.1 0 17)) (C := RX8) (T := TX8) (N := 50) hx hb hts in_X8_reach_X8 hown hK hP 0 (wM_0 _ _ _ _ _) rfl 17 (by decide) (hts (.fieldLink RX8 186 "CallGraphsModel" "grew" "Z") (List.mem_of_getElem? (i := 1) rfl)) (fun _ h9 => h9) (fM_0_17 _ _) dX8_reach_2 ?_
  refine lv_if_ne (tgt := 17) hx hb dX8_reach_5 (by decide) (fun c_5 => ?_) (fun c_5 => ?_)
  · rw [if_neg c_5] at hf
    exact w_X8_reach_17 hm hR hK hD v1 σ hf _ _ _ hP hS (lv_sub hl [0, 1] rfl)
  · rw [if_pos c_5] at hf
    refine lv_aload_n hx hb dX8_reach_8 rfl (lv_at hl 0 rfl) ?_
    refine va_get (D := D) (ci := 7) (v := .ref (ad 14)) (C := RX8) (T := TX8) (N := 50) hx hb hts in_X8_reach_X8 hown hK hP 0 (wM_0 _ _ _ _ _) rfl 18 (by decide) (hts (.fieldLink RX8 50 "CallGraphsModel" "reached" "[Z") (List.mem_of_getElem? (i := 2) rfl)) (fun _ h9 => h9) (fM_0_18 _ _) dX8_reach_9 ?_
    refine lv_iload_n hx hb dX8_reach_12 rfl (lv_at hl 1 rfl) ?_
    obtain ⟨h_13, hf⟩ := oi_e hf
    refine va_zald hx hb hK hP 14 2 (wM_14 _ _ _ _ _) rfl h_13 dX8_reach_13 ?_
    refine lv_if_ne (tgt := 21) hx hb dX8_reach_14 (by decide) (fun c_14 => ?_) (fun c_14 => ?_)
    · rw [if_neg c_14] at hf
      refine lv_iconst (v := 0) hx hb dX8_reach_21 (by decide) ?_
      exact w_X8_reach_22 hm hR hK hD v1 0 σ hf _ _ _ hP hS (lv_sub hl [0, 1] rfl)
    · rw [if_pos c_14] at hf
      exact w_X8_reach_17 hm hR hK hD v1 σ hf _ _ _ hP hS (lv_sub hl [0, 1] rfl)
theorem hd_X8_reach : yX8_reach.cls = RX8 ∧ yX8_reach.cls ≠ "java/lang/invoke/MethodHandle" ∧ yX8_reach.cls ≠ "java/lang/invoke/VarHandle" ∧ (parseMethodDescriptor yX8_reach.desc).map (fun d => d.parameters.length) = some 1 := by decide +kernel
set_option maxHeartbeats 4000000 in
set_option maxRecDepth 100000 in
theorem c_X8_reach (l : Launch) (D : va_G) (ad : Nat → Nat) (cI cJ cZ : ClassId) (σ : SS) (v1 : Int32) {res : SS} (hf : p_X8_reach_0 v1 σ = some res) : Met l yX8_reach wsX8_reach ({ frames := 0, cells := 0, slots := 0, locals := 0 } : Room) (PW D (tyw cI cJ cZ) (wM ad cI cJ cZ σ) [.ref (ad 0), .int v1]) (va_Qv (fun (u : SS) => u = res) (fun u t => va_P D vwCl (wM ad cI cJ cZ u) t.heap) (aM ad)) 0 0 (aM ad) := by
  refine Met.ofW (cc := cX8_reach) (maxL := 2) (ret := none) (by decide) rfl ?_
  intro p e s m args below meth c s₁ B hml hv
  obtain ⟨rfl, hP, hK, hD0⟩ := hv
  have hD : ∀ σ, va_D (aM ad) (wM ad cI cJ cZ σ) := fun σ => wd_D hD0 (wM_map _ _ _ _ _) (wM_map _ _ _ _ _)
  have hm : mx p s m _ meth c cX8_reach 2 none wsX8_reach RX8 := ⟨B.exec, B.bytes, B.returns, hml, findClass_of_methodNamed B.named, atoms_spec (ws := wsX8_reach) B.pre, B.notSynchronized⟩
  have hl := lv_entry ([.ref (ad 0), .int v1]) (n := 2) (Nat.le_of_ble_eq_true rfl)
  rw [lg_entry_eq]
  generalize (lg_sl ([.ref (ad 0), .int v1]) ++ List.replicate (2 - (lg_sl ([.ref (ad 0), .int v1])).length) Slot.unset).toArray = ls at hl ⊢
  exact w_X8_reach_0 hm ⟨Nat.le_refl _, Nat.le_refl _⟩ hK hD v1 σ hf _ _ _ hP va_S.rf hl
/-! CallGraphsModel.call(II)V -/
theorem in_X8_call_X8 : ∀ w ∈ u_ws RX8 TX8 50, w ∈ wsX8_call := fun w h => List.mem_cons_of_mem _ (List.mem_append_right _ h)
def p_X8_call_27 (v1 : Int32) (v2 : Int32) (t0 : Int32) (σ : SS) : Option (SS) := ob t0 (os (sI σ 0 17 t0) (fun s_27 => oi ((48 * v1) + v2) 7680 (os (sI s_27 18 (((48 * v1) + v2).toNatClampNeg) 1) (fun s_41 => oc (p_X8_reach_0 v2 s_41) (fun r_44 => some r_44)))))
set_option maxHeartbeats 4000000 in
set_option maxRecDepth 100000 in
theorem w_X8_call_27 {p : Program} {l : Launch} {e : Env} {R : Room} {s : State} {m : MethodId} {args : Array Value} {below : List Frame} {meth : Method} {c : Code} {D : va_G} {ad : Nat → Nat} {cI cJ cZ : ClassId} {res : SS} (hm : mx p s m args meth c cX8_call 3 none wsX8_call RX8) (hR : 1 ≤ R.frames ∧ 21 ≤ R.locals) (hK : va_K D vwCl (tyw cI cJ cZ) s) (hD : ∀ σ, va_D (aM ad) (wM ad cI cJ cZ σ)) (v1 : Int32) (v2 : Int32) (t0 : Int32) (σ : SS) (hf : p_X8_call_27 v1 v2 t0 σ = some res) (H : Heap) (locs : List Loc) (ls : Array Slot) (hP : va_P D vwCl (wM ad cI cJ cZ σ) H) (hS : va_S (aM ad) s.heap H locs) (hl : lv_has ls 3 [(0, .ref (ad 0)), (1, .int v1), (2, .int v2)]) : W p l e R s m args below meth c H locs 0 0 (MQ below (va_Qv (fun (u : SS) => u = res) (fun u t => va_P D vwCl (wM ad cI cJ cZ u) t.heap) (aM ad)) args s 0 0 (aM ad)) (F0 m 27 ls [.int t0, .ref (ad 0)]) := by
  obtain ⟨hx, hb, hr, hml, hown, hts, hlk⟩ := id hm
  unfold p_X8_call_27 at hf
  obtain ⟨h_27, hf⟩ := ob_e hf
  refine va_put (D := D) (ci := 7) (v := .int t0) (ty := .boolean) (C := RX8) (T := TX8) (N := 50) hx hb hts in_X8_call_X8 tyX8 tyX8_ok nmX8 hown hK hP (hD _) hS 0 (wM_0 _ _ _ _ _) rfl 17 (by decide) (hts (.fieldLink RX8 186 "CallGraphsModel" "grew" "Z") (List.mem_of_getElem? (i := 1) rfl)) (fun _ h9 => h9) rfl (tyX8_ok 17 (by decide)) (nb_n h_27) (nb_f h_27) (Nat.le_of_ble_eq_true rfl) dX8_call_27 (fun H locs hP _ hS => ?_)
  have hP := wM_p0_17 hP
  obtain ⟨s_27, es_27, hf⟩ := os_e hf
  rw [← es_27] at hP
  refine lv_aload_n hx hb dX8_call_30 rfl (lv_at hl 0 rfl) ?_
  refine va_get (D := D) (ci := 7) (v := .ref (ad 18)) (C := RX8) (T := TX8) (N := 50) hx hb hts in_X8_call_X8 hown hK hP 0 (wM_0 _ _ _ _ _) rfl 22 (by decide) (hts (.fieldLink RX8 62 "CallGraphsModel" "calls" "[Z") (List.mem_of_getElem? (i := 2) rfl)) (fun _ h9 => h9) (fM_0_22 _ _) dX8_call_31 ?_
  refine lv_bipush (v := 48) hx hb dX8_call_34 (by decide) ?_
  refine lv_iload_n hx hb dX8_call_36 rfl (lv_at hl 1 rfl) ?_
  refine lv_imul hx hb dX8_call_37 ?_
  refine lv_iload_n hx hb dX8_call_38 rfl (lv_at hl 2 rfl) ?_
  refine lv_iadd hx hb dX8_call_39 ?_
  refine lv_iconst (v := 1) hx hb dX8_call_40 (by decide) ?_
  obtain ⟨h_41, hf⟩ := oi_e hf
  refine va_zast hx hb hK hP (hD _) hS 18 2 (wM_18 _ _ _ _ _) rfl h_41 dX8_call_41 (fun H locs hP _ hS => ?_)
  rw [nb_a (Or.inr rfl)] at hP
  have hP := wM_s18 hP
  obtain ⟨s_41, es_41, hf⟩ := os_e hf
  rw [← es_41] at hP
  refine lv_aload_n hx hb dX8_call_42 rfl (lv_at hl 0 rfl) ?_
  refine lv_iload_n hx hb dX8_call_43 rfl (lv_at hl 2 rfl) ?_
  obtain ⟨r_44, hg_44, hf⟩ := oc_e hf
  refine mV_wv (wd := wM ad cI cJ cZ) (σ := s_41) (As := [.int v2]) (rest := []) ⟨hx, hb, hml, hown, hts⟩ hK hP hD hS (c_X8_reach l D ad cI cJ cZ s_41 v2 hg_44) (cwV 1 hts gX8_call_X8_reach rfl rfl rfl hd_X8_reach ⟨Nat.le_trans (Nat.le_of_ble_eq_true rfl) hR.1, Nat.le_trans (Nat.le_of_ble_eq_true rfl) hR.2⟩) rfl (wM_0 _ _ _ _ _) rfl hl.1 rfl (Nat.le_of_ble_eq_true rfl) dX8_call_44 (fun H locs hP hS => ?_)
  exact rt_v (wd := wM ad cI cJ cZ) hx hb hr hlk (Option.some.inj hf) hP hS dX8_call_47
def p_X8_call_22 (v1 : Int32) (v2 : Int32) (σ : SS) : Option (SS) := p_X8_call_27 v1 v2 1 σ
set_option maxHeartbeats 4000000 in
set_option maxRecDepth 100000 in
theorem w_X8_call_22 {p : Program} {l : Launch} {e : Env} {R : Room} {s : State} {m : MethodId} {args : Array Value} {below : List Frame} {meth : Method} {c : Code} {D : va_G} {ad : Nat → Nat} {cI cJ cZ : ClassId} {res : SS} (hm : mx p s m args meth c cX8_call 3 none wsX8_call RX8) (hR : 1 ≤ R.frames ∧ 21 ≤ R.locals) (hK : va_K D vwCl (tyw cI cJ cZ) s) (hD : ∀ σ, va_D (aM ad) (wM ad cI cJ cZ σ)) (v1 : Int32) (v2 : Int32) (σ : SS) (hf : p_X8_call_22 v1 v2 σ = some res) (H : Heap) (locs : List Loc) (ls : Array Slot) (hP : va_P D vwCl (wM ad cI cJ cZ σ) H) (hS : va_S (aM ad) s.heap H locs) (hl : lv_has ls 3 [(0, .ref (ad 0)), (1, .int v1), (2, .int v2)]) : W p l e R s m args below meth c H locs 0 0 (MQ below (va_Qv (fun (u : SS) => u = res) (fun u t => va_P D vwCl (wM ad cI cJ cZ u) t.heap) (aM ad)) args s 0 0 (aM ad)) (F0 m 22 ls [.ref (ad 0)]) := by
  obtain ⟨hx, hb, hr, hml, hown, hts, hlk⟩ := id hm
  unfold p_X8_call_22 at hf
  refine lv_iconst (v := 1) hx hb dX8_call_22 (by decide) ?_
  refine lv_goto (tgt := 27) hx hb dX8_call_23 (by decide) ?_
  exact w_X8_call_27 hm hR hK hD v1 v2 1 σ hf _ _ _ hP hS (lv_sub hl [0, 1, 2] rfl)
def p_X8_call_0 (v1 : Int32) (v2 : Int32) (σ : SS) : Option (SS) := if (σ.1 0 17) = 0 then oi ((48 * v1) + v2) 7680 (if (σ.1 18 ((48 * v1) + v2).toNatClampNeg) = 0 then p_X8_call_22 v1 v2 σ else p_X8_call_27 v1 v2 0 σ) else p_X8_call_22 v1 v2 σ
set_option maxHeartbeats 4000000 in
set_option maxRecDepth 100000 in
theorem w_X8_call_0 {p : Program} {l : Launch} {e : Env} {R : Room} {s : State} {m : MethodId} {args : Array Value} {below : List Frame} {meth : Method} {c : Code} {D : va_G} {ad : Nat → Nat} {cI cJ cZ : ClassId} {res : SS} (hm : mx p s m args meth c cX8_call 3 none wsX8_call RX8) (hR : 1 ≤ R.frames ∧ 21 ≤ R.locals) (hK : va_K D vwCl (tyw cI cJ cZ) s) (hD : ∀ σ, va_D (aM ad) (wM ad cI cJ cZ σ)) (v1 : Int32) (v2 : Int32) (σ : SS) (hf : p_X8_call_0 v1 v2 σ = some res) (H : Heap) (locs : List Loc) (ls : Array Slot) (hP : va_P D vwCl (wM ad cI cJ cZ σ) H) (hS : va_S (aM ad) s.heap H locs) (hl : lv_has ls 3 [(0, .ref (ad 0)), (1, .int v1), (2, .int v2)]) : W p l e R s m args below meth c H locs 0 0 (MQ below (va_Qv (fun (u : SS) => u = res) (fun u t => va_P D vwCl (wM ad cI cJ cZ u) t.heap) (aM ad)) args s 0 0 (aM ad)) (F0 m 0 ls []) := by
  obtain ⟨hx, hb, hr, hml, hown, hts, hlk⟩ := id hm
  unfold p_X8_call_0 at hf
  refine lv_aload_n hx hb dX8_call_0 rfl (lv_at hl 0 rfl) ?_
  refine lv_aload_n hx hb dX8_call_1 rfl (lv_at hl 0 rfl) ?_
  refine va_get (D := D) (ci := 7) (v := .int (σ.1 0 17)) (C := RX8) (T := TX8) (N := 50) hx hb hts in_X8_call_X8 hown hK hP 0 (wM_0 _ _ _ _ _) rfl 17 (by decide) (hts (.fieldLink RX8 186 "CallGraphsModel" "grew" "Z") (List.mem_of_getElem? (i := 1) rfl)) (fun _ h9 => h9) (fM_0_17 _ _) dX8_call_2 ?_
  refine lv_if_ne (tgt := 22) hx hb dX8_call_5 (by decide) (fun c_5 => ?_) (fun c_5 => ?_)
  · rw [if_neg c_5] at hf
    exact w_X8_call_22 hm hR hK hD v1 v2 σ hf _ _ _ hP hS (lv_sub hl [0, 1, 2] rfl)
  · rw [if_pos c_5] at hf
    refine lv_aload_n hx hb dX8_call_8 rfl (lv_at hl 0 rfl) ?_
    refine va_get (D := D) (ci := 7) (v := .ref (ad 18)) (C := RX8) (T := TX8) (N := 50) hx hb hts in_X8_call_X8 hown hK hP 0 (wM_0 _ _ _ _ _) rfl 22 (by decide) (hts (.fieldLink RX8 62 "CallGraphsModel" "calls" "[Z") (List.mem_of_getElem? (i := 2) rfl)) (fun _ h9 => h9) (fM_0_22 _ _) dX8_call_9 ?_
    refine lv_bipush (v := 48) hx hb dX8_call_12 (by decide) ?_
    refine lv_iload_n hx hb dX8_call_14 rfl (lv_at hl 1 rfl) ?_
    refine lv_imul hx hb dX8_call_15 ?_
    refine lv_iload_n hx hb dX8_call_16 rfl (lv_at hl 2 rfl) ?_
    refine lv_iadd hx hb dX8_call_17 ?_
    obtain ⟨h_18, hf⟩ := oi_e hf
    refine va_zald hx hb hK hP 18 2 (wM_18 _ _ _ _ _) rfl h_18 dX8_call_18 ?_
    refine lv_if_ne (tgt := 26) hx hb dX8_call_19 (by decide) (fun c_19 => ?_) (fun c_19 => ?_)
    · rw [if_neg c_19] at hf
      refine lv_iconst (v := 0) hx hb dX8_call_26 (by decide) ?_
      exact w_X8_call_27 hm hR hK hD v1 v2 0 σ hf _ _ _ hP hS (lv_sub hl [0, 1, 2] rfl)
    · rw [if_pos c_19] at hf
      exact w_X8_call_22 hm hR hK hD v1 v2 σ hf _ _ _ hP hS (lv_sub hl [0, 1, 2] rfl)
theorem hd_X8_call : yX8_call.cls = RX8 ∧ yX8_call.cls ≠ "java/lang/invoke/MethodHandle" ∧ yX8_call.cls ≠ "java/lang/invoke/VarHandle" ∧ (parseMethodDescriptor yX8_call.desc).map (fun d => d.parameters.length) = some 2 := by decide +kernel
set_option maxHeartbeats 4000000 in
set_option maxRecDepth 100000 in
theorem c_X8_call (l : Launch) (D : va_G) (ad : Nat → Nat) (cI cJ cZ : ClassId) (σ : SS) (v1 : Int32) (v2 : Int32) {res : SS} (hf : p_X8_call_0 v1 v2 σ = some res) : Met l yX8_call wsX8_call ({ frames := 1, cells := 0, slots := 0, locals := 21 } : Room) (PW D (tyw cI cJ cZ) (wM ad cI cJ cZ σ) [.ref (ad 0), .int v1, .int v2]) (va_Qv (fun (u : SS) => u = res) (fun u t => va_P D vwCl (wM ad cI cJ cZ u) t.heap) (aM ad)) 0 0 (aM ad) := by
  refine Met.ofW (cc := cX8_call) (maxL := 3) (ret := none) (by decide) rfl ?_
  intro p e s m args below meth c s₁ B hml hv
  obtain ⟨rfl, hP, hK, hD0⟩ := hv
  have hD : ∀ σ, va_D (aM ad) (wM ad cI cJ cZ σ) := fun σ => wd_D hD0 (wM_map _ _ _ _ _) (wM_map _ _ _ _ _)
  have hm : mx p s m _ meth c cX8_call 3 none wsX8_call RX8 := ⟨B.exec, B.bytes, B.returns, hml, findClass_of_methodNamed B.named, atoms_spec (ws := wsX8_call) B.pre, B.notSynchronized⟩
  have hl := lv_entry ([.ref (ad 0), .int v1, .int v2]) (n := 3) (Nat.le_of_ble_eq_true rfl)
  rw [lg_entry_eq]
  generalize (lg_sl ([.ref (ad 0), .int v1, .int v2]) ++ List.replicate (3 - (lg_sl ([.ref (ad 0), .int v1, .int v2])).length) Slot.unset).toArray = ls at hl ⊢
  exact w_X8_call_0 hm ⟨Nat.le_refl _, Nat.le_refl _⟩ hK hD v1 v2 σ hf _ _ _ hP va_S.rf hl
/-! CallGraphsModel.fault(II)V -/
theorem in_X8_fault_X8 : ∀ w ∈ u_ws RX8 TX8 50, w ∈ wsX8_fault := fun w h => List.mem_cons_of_mem _ (List.mem_append_right _ h)
def p_X8_fault_0 (v1 : Int32) (v2 : Int32) (σ : SS) : Option (SS) := oi (((4 * v1) - 2) - v2) 640 (oi (((4 * v1) - 2) - v2) 640 (os (sI σ 19 ((((4 * v1) - 2) - v2).toNatClampNeg) ((σ.1 19 (((4 * v1) - 2) - v2).toNatClampNeg) + 1)) (fun s_15 => some s_15)))
set_option maxHeartbeats 4000000 in
set_option maxRecDepth 100000 in
theorem w_X8_fault_0 {p : Program} {l : Launch} {e : Env} {R : Room} {s : State} {m : MethodId} {args : Array Value} {below : List Frame} {meth : Method} {c : Code} {D : va_G} {ad : Nat → Nat} {cI cJ cZ : ClassId} {res : SS} (hm : mx p s m args meth c cX8_fault 3 none wsX8_fault RX8) (hR : 0 ≤ R.frames ∧ 0 ≤ R.locals) (hK : va_K D vwCl (tyw cI cJ cZ) s) (hD : ∀ σ, va_D (aM ad) (wM ad cI cJ cZ σ)) (v1 : Int32) (v2 : Int32) (σ : SS) (hf : p_X8_fault_0 v1 v2 σ = some res) (H : Heap) (locs : List Loc) (ls : Array Slot) (hP : va_P D vwCl (wM ad cI cJ cZ σ) H) (hS : va_S (aM ad) s.heap H locs) (hl : lv_has ls 3 [(0, .ref (ad 0)), (1, .int v1), (2, .int v2)]) : W p l e R s m args below meth c H locs 0 0 (MQ below (va_Qv (fun (u : SS) => u = res) (fun u t => va_P D vwCl (wM ad cI cJ cZ u) t.heap) (aM ad)) args s 0 0 (aM ad)) (F0 m 0 ls []) := by
  obtain ⟨hx, hb, hr, hml, hown, hts, hlk⟩ := id hm
  unfold p_X8_fault_0 at hf
  refine lv_aload_n hx hb dX8_fault_0 rfl (lv_at hl 0 rfl) ?_
  refine va_get (D := D) (ci := 7) (v := .ref (ad 19)) (C := RX8) (T := TX8) (N := 50) hx hb hts in_X8_fault_X8 hown hK hP 0 (wM_0 _ _ _ _ _) rfl 23 (by decide) (hts (.fieldLink RX8 65 "CallGraphsModel" "faultMany" "[I") (List.mem_of_getElem? (i := 1) rfl)) (fun _ h9 => h9) (fM_0_23 _ _) dX8_fault_1 ?_
  refine lv_iconst (v := 4) hx hb dX8_fault_4 (by decide) ?_
  refine lv_iload_n hx hb dX8_fault_5 rfl (lv_at hl 1 rfl) ?_
  refine lv_imul hx hb dX8_fault_6 ?_
  refine lv_iconst (v := 2) hx hb dX8_fault_7 (by decide) ?_
  refine lv_isub hx hb dX8_fault_8 ?_
  refine lv_iload_n hx hb dX8_fault_9 rfl (lv_at hl 2 rfl) ?_
  refine lv_isub hx hb dX8_fault_10 ?_
  refine lv_dup2_11 hx hb dX8_fault_11 rfl rfl ?_
  obtain ⟨h_12, hf⟩ := oi_e hf
  refine va_iald hx hb hK hP 19 0 (wM_19 _ _ _ _ _) rfl h_12 dX8_fault_12 ?_
  refine lv_iconst (v := 1) hx hb dX8_fault_13 (by decide) ?_
  refine lv_iadd hx hb dX8_fault_14 ?_
  obtain ⟨h_15, hf⟩ := oi_e hf
  refine va_iast hx hb hK hP (hD _) hS 19 0 (wM_19 _ _ _ _ _) rfl h_15 dX8_fault_15 (fun H locs hP _ hS => ?_)
  have hP := wM_s19 hP
  obtain ⟨s_15, es_15, hf⟩ := os_e hf
  rw [← es_15] at hP
  exact rt_v (wd := wM ad cI cJ cZ) hx hb hr hlk (Option.some.inj hf) hP hS dX8_fault_16
theorem hd_X8_fault : yX8_fault.cls = RX8 ∧ yX8_fault.cls ≠ "java/lang/invoke/MethodHandle" ∧ yX8_fault.cls ≠ "java/lang/invoke/VarHandle" ∧ (parseMethodDescriptor yX8_fault.desc).map (fun d => d.parameters.length) = some 2 := by decide +kernel
set_option maxHeartbeats 4000000 in
set_option maxRecDepth 100000 in
theorem c_X8_fault (l : Launch) (D : va_G) (ad : Nat → Nat) (cI cJ cZ : ClassId) (σ : SS) (v1 : Int32) (v2 : Int32) {res : SS} (hf : p_X8_fault_0 v1 v2 σ = some res) : Met l yX8_fault wsX8_fault ({ frames := 0, cells := 0, slots := 0, locals := 0 } : Room) (PW D (tyw cI cJ cZ) (wM ad cI cJ cZ σ) [.ref (ad 0), .int v1, .int v2]) (va_Qv (fun (u : SS) => u = res) (fun u t => va_P D vwCl (wM ad cI cJ cZ u) t.heap) (aM ad)) 0 0 (aM ad) := by
  refine Met.ofW (cc := cX8_fault) (maxL := 3) (ret := none) (by decide) rfl ?_
  intro p e s m args below meth c s₁ B hml hv
  obtain ⟨rfl, hP, hK, hD0⟩ := hv
  have hD : ∀ σ, va_D (aM ad) (wM ad cI cJ cZ σ) := fun σ => wd_D hD0 (wM_map _ _ _ _ _) (wM_map _ _ _ _ _)
  have hm : mx p s m _ meth c cX8_fault 3 none wsX8_fault RX8 := ⟨B.exec, B.bytes, B.returns, hml, findClass_of_methodNamed B.named, atoms_spec (ws := wsX8_fault) B.pre, B.notSynchronized⟩
  have hl := lv_entry ([.ref (ad 0), .int v1, .int v2]) (n := 3) (Nat.le_of_ble_eq_true rfl)
  rw [lg_entry_eq]
  generalize (lg_sl ([.ref (ad 0), .int v1, .int v2]) ++ List.replicate (3 - (lg_sl ([.ref (ad 0), .int v1, .int v2])).length) Slot.unset).toArray = ls at hl ⊢
  exact w_X8_fault_0 hm ⟨Nat.le_refl _, Nat.le_refl _⟩ hK hD v1 v2 σ hf _ _ _ hP va_S.rf hl
/-! CallGraphsModel.beginBy(II)V -/
theorem in_X8_beginBy_X8 : ∀ w ∈ u_ws RX8 TX8 50, w ∈ wsX8_beginBy := fun w h => List.mem_cons_of_mem _ (List.mem_append_right _ h)
def p_X8_beginBy_77 (k7 : Int32 → Int32 → SS → Option (SS)) (v1 : Int32) (v3 : Int32) (σ : SS) : Option (SS) := k7 v1 (v3 + 1) σ
set_option maxHeartbeats 4000000 in
set_option maxRecDepth 100000 in
theorem w_X8_beginBy_77 {p : Program} {l : Launch} {e : Env} {R : Room} {s : State} {m : MethodId} {args : Array Value} {below : List Frame} {meth : Method} {c : Code} {D : va_G} {ad : Nat → Nat} {cI cJ cZ : ClassId} {res : SS} (hm : mx p s m args meth c cX8_beginBy 5 none wsX8_beginBy RX8) (hR : 3 ≤ R.frames ∧ 69 ≤ R.locals) (hK : va_K D vwCl (tyw cI cJ cZ) s) (hD : ∀ σ, va_D (aM ad) (wM ad cI cJ cZ σ)) (k7 : Int32 → Int32 → SS → Option (SS)) (hk7 : ∀ (v1 : Int32) (v3 : Int32) (σ : SS), k7 v1 v3 σ = some res → ∀ (H : Heap) (locs : List Loc) (ls : Array Slot), va_P D vwCl (wM ad cI cJ cZ σ) H → va_S (aM ad) s.heap H locs → lv_has ls 5 [(0, .ref (ad 0)), (1, .int v1), (3, .int v3)] → W p l e R s m args below meth c H locs 0 0 (MQ below (va_Qv (fun (u : SS) => u = res) (fun u t => va_P D vwCl (wM ad cI cJ cZ u) t.heap) (aM ad)) args s 0 0 (aM ad)) (F0 m 7 ls [])) (v1 : Int32) (v3 : Int32) (σ : SS) (hf : p_X8_beginBy_77 k7 v1 v3 σ = some res) (H : Heap) (locs : List Loc) (ls : Array Slot) (hP : va_P D vwCl (wM ad cI cJ cZ σ) H) (hS : va_S (aM ad) s.heap H locs) (hl : lv_has ls 5 [(0, .ref (ad 0)), (1, .int v1), (3, .int v3)]) : W p l e R s m args below meth c H locs 0 0 (MQ below (va_Qv (fun (u : SS) => u = res) (fun u t => va_P D vwCl (wM ad cI cJ cZ u) t.heap) (aM ad)) args s 0 0 (aM ad)) (F0 m 77 ls []) := by
  obtain ⟨hx, hb, hr, hml, hown, hts, hlk⟩ := id hm
  unfold p_X8_beginBy_77 at hf
  refine lv_iinc (v := (v3 + 1)) (lv' := [(3, .int (v3 + 1)), (0, .ref (ad 0)), (1, .int v1)]) hx hb dX8_beginBy_77 hl (k := 2) rfl rfl (by decide) rfl (fun ls hl => ?_)
  refine lv_goto (tgt := 7) hx hb dX8_beginBy_80 (by decide) ?_
  exact hk7 v1 (v3 + 1) σ hf _ _ _ hP hS (lv_sub hl [1, 2, 0] rfl)
def p_X8_beginBy_46 (k7 : Int32 → Int32 → SS → Option (SS)) (v1 : Int32) (v3 : Int32) (t0 : Int32) (σ : SS) : Option (SS) := ob t0 (os (sI σ 0 17 t0) (fun s_46 => oi v3 16 (os (sI s_46 16 (v3.toNatClampNeg) 1) (fun s_55 => oc (p_X8_ownOf_0 s_55 v3 (-1)) (fun r_59 => if r_59 = (-1) then p_X8_beginBy_77 k7 v1 v3 s_55 else oc (p_X8_call_0 v1 r_59 s_55) (fun r_74 => p_X8_beginBy_77 k7 v1 v3 r_74))))))
set_option maxHeartbeats 4000000 in
set_option maxRecDepth 100000 in
theorem w_X8_beginBy_46 {p : Program} {l : Launch} {e : Env} {R : Room} {s : State} {m : MethodId} {args : Array Value} {below : List Frame} {meth : Method} {c : Code} {D : va_G} {ad : Nat → Nat} {cI cJ cZ : ClassId} {res : SS} (hm : mx p s m args meth c cX8_beginBy 5 none wsX8_beginBy RX8) (hR : 3 ≤ R.frames ∧ 69 ≤ R.locals) (hK : va_K D vwCl (tyw cI cJ cZ) s) (hD : ∀ σ, va_D (aM ad) (wM ad cI cJ cZ σ)) (k7 : Int32 → Int32 → SS → Option (SS)) (hk7 : ∀ (v1 : Int32) (v3 : Int32) (σ : SS), k7 v1 v3 σ = some res → ∀ (H : Heap) (locs : List Loc) (ls : Array Slot), va_P D vwCl (wM ad cI cJ cZ σ) H → va_S (aM ad) s.heap H locs → lv_has ls 5 [(0, .ref (ad 0)), (1, .int v1), (3, .int v3)] → W p l e R s m args below meth c H locs 0 0 (MQ below (va_Qv (fun (u : SS) => u = res) (fun u t => va_P D vwCl (wM ad cI cJ cZ u) t.heap) (aM ad)) args s 0 0 (aM ad)) (F0 m 7 ls [])) (v1 : Int32) (v3 : Int32) (t0 : Int32) (σ : SS) (hf : p_X8_beginBy_46 k7 v1 v3 t0 σ = some res) (H : Heap) (locs : List Loc) (ls : Array Slot) (hP : va_P D vwCl (wM ad cI cJ cZ σ) H) (hS : va_S (aM ad) s.heap H locs) (hl : lv_has ls 5 [(0, .ref (ad 0)), (1, .int v1), (3, .int v3)]) : W p l e R s m args below meth c H locs 0 0 (MQ below (va_Qv (fun (u : SS) => u = res) (fun u t => va_P D vwCl (wM ad cI cJ cZ u) t.heap) (aM ad)) args s 0 0 (aM ad)) (F0 m 46 ls [.int t0, .ref (ad 0)]) := by
  obtain ⟨hx, hb, hr, hml, hown, hts, hlk⟩ := id hm
  unfold p_X8_beginBy_46 at hf
  obtain ⟨h_46, hf⟩ := ob_e hf
  refine va_put (D := D) (ci := 7) (v := .int t0) (ty := .boolean) (C := RX8) (T := TX8) (N := 50) hx hb hts in_X8_beginBy_X8 tyX8 tyX8_ok nmX8 hown hK hP (hD _) hS 0 (wM_0 _ _ _ _ _) rfl 17 (by decide) (hts (.fieldLink RX8 186 "CallGraphsModel" "grew" "Z") (List.mem_of_getElem? (i := 3) rfl)) (fun _ h9 => h9) rfl (tyX8_ok 17 (by decide)) (nb_n h_46) (nb_f h_46) (Nat.le_of_ble_eq_true rfl) dX8_beginBy_46 (fun H locs hP _ hS => ?_)
  have hP := wM_p0_17 hP
  obtain ⟨s_46, es_46, hf⟩ := os_e hf
  rw [← es_46] at hP
  refine lv_aload_n hx hb dX8_beginBy_49 rfl (lv_at hl 0 rfl) ?_
  refine va_get (D := D) (ci := 7) (v := .ref (ad 16)) (C := RX8) (T := TX8) (N := 50) hx hb hts in_X8_beginBy_X8 hown hK hP 0 (wM_0 _ _ _ _ _) rfl 20 (by decide) (hts (.fieldLink RX8 56 "CallGraphsModel" "begunAt" "[Z") (List.mem_of_getElem? (i := 4) rfl)) (fun _ h9 => h9) (fM_0_20 _ _) dX8_beginBy_50 ?_
  refine lv_iload_n hx hb dX8_beginBy_53 rfl (lv_at hl 2 rfl) ?_
  refine lv_iconst (v := 1) hx hb dX8_beginBy_54 (by decide) ?_
  obtain ⟨h_55, hf⟩ := oi_e hf
  refine va_zast hx hb hK hP (hD _) hS 16 2 (wM_16 _ _ _ _ _) rfl h_55 dX8_beginBy_55 (fun H locs hP _ hS => ?_)
  rw [nb_a (Or.inr rfl)] at hP
  have hP := wM_s16 hP
  obtain ⟨s_55, es_55, hf⟩ := os_e hf
  rw [← es_55] at hP
  refine lv_aload_n hx hb dX8_beginBy_56 rfl (lv_at hl 0 rfl) ?_
  refine lv_iload_n hx hb dX8_beginBy_57 rfl (lv_at hl 2 rfl) ?_
  refine lv_iconst (v := (-1)) hx hb dX8_beginBy_58 (by decide) ?_
  obtain ⟨r_59, hg_59, hf⟩ := oc_e hf
  refine mV_ri (wd := wM ad cI cJ cZ) (σ := s_55) (As := [.int v3, .int (-1)]) (rest := []) ⟨hx, hb, hml, hown, hts⟩ hK hP hD hS (c_X8_ownOf l D ad cI cJ cZ s_55 v3 (-1) hg_59) (cwV 2 hts gX8_beginBy_X8_ownOf rfl rfl rfl hd_X8_ownOf ⟨Nat.le_trans (Nat.le_of_ble_eq_true rfl) hR.1, Nat.le_trans (Nat.le_of_ble_eq_true rfl) hR.2⟩) rfl (wM_0 _ _ _ _ _) rfl hl.1 rfl (Nat.le_of_ble_eq_true rfl) dX8_beginBy_59 (fun H locs hP hS => ?_)
  refine lv_istore (lv' := [(4, .int r_59), (0, .ref (ad 0)), (1, .int v1), (3, .int v3)]) hx hb dX8_beginBy_62 hl (by decide) rfl (fun ls hl => ?_)
  refine lv_iload hx hb dX8_beginBy_64 (lv_at hl 0 rfl) ?_
  refine lv_iconst (v := (-1)) hx hb dX8_beginBy_66 (by decide) ?_
  refine lv_icmp_eq (tgt := 77) hx hb dX8_beginBy_67 (by decide) (fun c_67 => ?_) (fun c_67 => ?_)
  · rw [if_pos c_67] at hf
    exact w_X8_beginBy_77 hm hR hK hD k7 hk7 v1 v3 s_55 hf _ _ _ hP hS (lv_sub hl [1, 2, 3] rfl)
  · rw [if_neg c_67] at hf
    refine lv_aload_n hx hb dX8_beginBy_70 rfl (lv_at hl 1 rfl) ?_
    refine lv_iload_n hx hb dX8_beginBy_71 rfl (lv_at hl 2 rfl) ?_
    refine lv_iload hx hb dX8_beginBy_72 (lv_at hl 0 rfl) ?_
    obtain ⟨r_74, hg_74, hf⟩ := oc_e hf
    refine mV_wv (wd := wM ad cI cJ cZ) (σ := s_55) (As := [.int v1, .int r_59]) (rest := []) ⟨hx, hb, hml, hown, hts⟩ hK hP hD hS (c_X8_call l D ad cI cJ cZ s_55 v1 r_59 hg_74) (cwV 2 hts gX8_beginBy_X8_call rfl rfl rfl hd_X8_call ⟨Nat.le_trans (Nat.le_of_ble_eq_true rfl) hR.1, Nat.le_trans (Nat.le_of_ble_eq_true rfl) hR.2⟩) rfl (wM_0 _ _ _ _ _) rfl hl.1 rfl (Nat.le_of_ble_eq_true rfl) dX8_beginBy_74 (fun H locs hP hS => ?_)
    exact w_X8_beginBy_77 hm hR hK hD k7 hk7 v1 v3 r_74 hf _ _ _ hP hS (lv_sub hl [1, 2, 3] rfl)
def p_X8_beginBy_41 (k7 : Int32 → Int32 → SS → Option (SS)) (v1 : Int32) (v3 : Int32) (σ : SS) : Option (SS) := p_X8_beginBy_46 k7 v1 v3 1 σ
set_option maxHeartbeats 4000000 in
set_option maxRecDepth 100000 in
theorem w_X8_beginBy_41 {p : Program} {l : Launch} {e : Env} {R : Room} {s : State} {m : MethodId} {args : Array Value} {below : List Frame} {meth : Method} {c : Code} {D : va_G} {ad : Nat → Nat} {cI cJ cZ : ClassId} {res : SS} (hm : mx p s m args meth c cX8_beginBy 5 none wsX8_beginBy RX8) (hR : 3 ≤ R.frames ∧ 69 ≤ R.locals) (hK : va_K D vwCl (tyw cI cJ cZ) s) (hD : ∀ σ, va_D (aM ad) (wM ad cI cJ cZ σ)) (k7 : Int32 → Int32 → SS → Option (SS)) (hk7 : ∀ (v1 : Int32) (v3 : Int32) (σ : SS), k7 v1 v3 σ = some res → ∀ (H : Heap) (locs : List Loc) (ls : Array Slot), va_P D vwCl (wM ad cI cJ cZ σ) H → va_S (aM ad) s.heap H locs → lv_has ls 5 [(0, .ref (ad 0)), (1, .int v1), (3, .int v3)] → W p l e R s m args below meth c H locs 0 0 (MQ below (va_Qv (fun (u : SS) => u = res) (fun u t => va_P D vwCl (wM ad cI cJ cZ u) t.heap) (aM ad)) args s 0 0 (aM ad)) (F0 m 7 ls [])) (v1 : Int32) (v3 : Int32) (σ : SS) (hf : p_X8_beginBy_41 k7 v1 v3 σ = some res) (H : Heap) (locs : List Loc) (ls : Array Slot) (hP : va_P D vwCl (wM ad cI cJ cZ σ) H) (hS : va_S (aM ad) s.heap H locs) (hl : lv_has ls 5 [(0, .ref (ad 0)), (1, .int v1), (3, .int v3)]) : W p l e R s m args below meth c H locs 0 0 (MQ below (va_Qv (fun (u : SS) => u = res) (fun u t => va_P D vwCl (wM ad cI cJ cZ u) t.heap) (aM ad)) args s 0 0 (aM ad)) (F0 m 41 ls [.ref (ad 0)]) := by
  obtain ⟨hx, hb, hr, hml, hown, hts, hlk⟩ := id hm
  unfold p_X8_beginBy_41 at hf
  refine lv_iconst (v := 1) hx hb dX8_beginBy_41 (by decide) ?_
  refine lv_goto (tgt := 46) hx hb dX8_beginBy_42 (by decide) ?_
  exact w_X8_beginBy_46 hm hR hK hD k7 hk7 v1 v3 1 σ hf _ _ _ hP hS (lv_sub hl [0, 1, 2] rfl)
def p_X8_beginBy_7 : Nat → Int32 → Int32 → SS → Option (SS)
  | 0, _, _, _ => none
  | n + 1, v1, v3, σ => let k7 := p_X8_beginBy_7 n; if (σ.1 0 0) ≤ v3 then some σ else oi v3 16 (if (σ.1 24 v3.toNatClampNeg) = 0 then p_X8_beginBy_77 k7 v1 v3 σ else if (σ.1 0 17) = 0 then oi v3 16 (if (σ.1 16 v3.toNatClampNeg) = 0 then p_X8_beginBy_41 k7 v1 v3 σ else p_X8_beginBy_46 k7 v1 v3 0 σ) else p_X8_beginBy_41 k7 v1 v3 σ)
set_option maxHeartbeats 4000000 in
set_option maxRecDepth 100000 in
theorem w_X8_beginBy_7 {p : Program} {l : Launch} {e : Env} {R : Room} {s : State} {m : MethodId} {args : Array Value} {below : List Frame} {meth : Method} {c : Code} {D : va_G} {ad : Nat → Nat} {cI cJ cZ : ClassId} {res : SS} (hm : mx p s m args meth c cX8_beginBy 5 none wsX8_beginBy RX8) (hR : 3 ≤ R.frames ∧ 69 ≤ R.locals) (hK : va_K D vwCl (tyw cI cJ cZ) s) (hD : ∀ σ, va_D (aM ad) (wM ad cI cJ cZ σ)) : ∀ (n : Nat) (v1 : Int32) (v3 : Int32) (σ : SS), p_X8_beginBy_7 n v1 v3 σ = some res → ∀ (H : Heap) (locs : List Loc) (ls : Array Slot), va_P D vwCl (wM ad cI cJ cZ σ) H → va_S (aM ad) s.heap H locs → lv_has ls 5 [(0, .ref (ad 0)), (1, .int v1), (3, .int v3)] → W p l e R s m args below meth c H locs 0 0 (MQ below (va_Qv (fun (u : SS) => u = res) (fun u t => va_P D vwCl (wM ad cI cJ cZ u) t.heap) (aM ad)) args s 0 0 (aM ad)) (F0 m 7 ls []) := by
  obtain ⟨hx, hb, hr, hml, hown, hts, hlk⟩ := id hm
  intro n
  induction n with
  | zero =>
    intro _ _ _ hf
    cases hf
  | succ n hk7 =>
    intro v1 v3 σ hf H locs ls hP hS hl
    rw [p_X8_beginBy_7] at hf
    try dsimp only at hf
    refine lv_iload_n hx hb dX8_beginBy_7 rfl (lv_at hl 2 rfl) ?_
    refine lv_aload_n hx hb dX8_beginBy_8 rfl (lv_at hl 0 rfl) ?_
    refine va_get (D := D) (ci := 7) (v := .int (σ.1 0 0)) (C := RX8) (T := TX8) (N := 50) hx hb hts in_X8_beginBy_X8 hown hK hP 0 (wM_0 _ _ _ _ _) rfl 0 (by decide) (hts (.fieldLink RX8 123 "CallGraphsModel" "types" "I") (List.mem_of_getElem? (i := 1) rfl)) (fun _ h9 => h9) (fM_0_0 _ _) dX8_beginBy_9 ?_
    refine lv_icmp_ge (tgt := 83) hx hb dX8_beginBy_12 (by decide) (fun c_12 => ?_) (fun c_12 => ?_)
    · rw [if_pos c_12] at hf
      exact rt_v (wd := wM ad cI cJ cZ) hx hb hr hlk (Option.some.inj hf) hP hS dX8_beginBy_83
    · rw [if_neg c_12] at hf
      refine lv_aload_n hx hb dX8_beginBy_15 rfl (lv_at hl 0 rfl) ?_
      refine va_get (D := D) (ci := 7) (v := .ref (ad 24)) (C := RX8) (T := TX8) (N := 50) hx hb hts in_X8_beginBy_X8 hown hK hP 0 (wM_0 _ _ _ _ _) rfl 29 (by decide) (hts (.fieldLink RX8 80 "CallGraphsModel" "withIt" "[Z") (List.mem_of_getElem? (i := 2) rfl)) (fun _ h9 => h9) (fM_0_29 _ _) dX8_beginBy_16 ?_
      refine lv_iload_n hx hb dX8_beginBy_19 rfl (lv_at hl 2 rfl) ?_
      obtain ⟨h_20, hf⟩ := oi_e hf
      refine va_zald hx hb hK hP 24 2 (wM_24 _ _ _ _ _) rfl h_20 dX8_beginBy_20 ?_
      refine lv_if_eq (tgt := 77) hx hb dX8_beginBy_21 (by decide) (fun c_21 => ?_) (fun c_21 => ?_)
      · rw [if_pos c_21] at hf
        exact w_X8_beginBy_77 hm hR hK hD (p_X8_beginBy_7 n) hk7 v1 v3 σ hf _ _ _ hP hS (lv_sub hl [0, 1, 2] rfl)
      · rw [if_neg c_21] at hf
        refine lv_aload_n hx hb dX8_beginBy_24 rfl (lv_at hl 0 rfl) ?_
        refine lv_aload_n hx hb dX8_beginBy_25 rfl (lv_at hl 0 rfl) ?_
        refine va_get (D := D) (ci := 7) (v := .int (σ.1 0 17)) (C := RX8) (T := TX8) (N := 50) hx hb hts in_X8_beginBy_X8 hown hK hP 0 (wM_0 _ _ _ _ _) rfl 17 (by decide) (hts (.fieldLink RX8 186 "CallGraphsModel" "grew" "Z") (List.mem_of_getElem? (i := 3) rfl)) (fun _ h9 => h9) (fM_0_17 _ _) dX8_beginBy_26 ?_
        refine lv_if_ne (tgt := 41) hx hb dX8_beginBy_29 (by decide) (fun c_29 => ?_) (fun c_29 => ?_)
        · rw [if_neg c_29] at hf
          exact w_X8_beginBy_41 hm hR hK hD (p_X8_beginBy_7 n) hk7 v1 v3 σ hf _ _ _ hP hS (lv_sub hl [0, 1, 2] rfl)
        · rw [if_pos c_29] at hf
          refine lv_aload_n hx hb dX8_beginBy_32 rfl (lv_at hl 0 rfl) ?_
          refine va_get (D := D) (ci := 7) (v := .ref (ad 16)) (C := RX8) (T := TX8) (N := 50) hx hb hts in_X8_beginBy_X8 hown hK hP 0 (wM_0 _ _ _ _ _) rfl 20 (by decide) (hts (.fieldLink RX8 56 "CallGraphsModel" "begunAt" "[Z") (List.mem_of_getElem? (i := 4) rfl)) (fun _ h9 => h9) (fM_0_20 _ _) dX8_beginBy_33 ?_
          refine lv_iload_n hx hb dX8_beginBy_36 rfl (lv_at hl 2 rfl) ?_
          obtain ⟨h_37, hf⟩ := oi_e hf
          refine va_zald hx hb hK hP 16 2 (wM_16 _ _ _ _ _) rfl h_37 dX8_beginBy_37 ?_
          refine lv_if_ne (tgt := 45) hx hb dX8_beginBy_38 (by decide) (fun c_38 => ?_) (fun c_38 => ?_)
          · rw [if_neg c_38] at hf
            refine lv_iconst (v := 0) hx hb dX8_beginBy_45 (by decide) ?_
            exact w_X8_beginBy_46 hm hR hK hD (p_X8_beginBy_7 n) hk7 v1 v3 0 σ hf _ _ _ hP hS (lv_sub hl [0, 1, 2] rfl)
          · rw [if_pos c_38] at hf
            exact w_X8_beginBy_41 hm hR hK hD (p_X8_beginBy_7 n) hk7 v1 v3 σ hf _ _ _ hP hS (lv_sub hl [0, 1, 2] rfl)
def p_X8_beginBy_0 (v1 : Int32) (v2 : Int32) (σ : SS) : Option (SS) := oc (p_X8_findWith_0 v2 σ) (fun r_2 => p_X8_beginBy_7 100000 v1 0 r_2)
set_option maxHeartbeats 4000000 in
set_option maxRecDepth 100000 in
theorem w_X8_beginBy_0 {p : Program} {l : Launch} {e : Env} {R : Room} {s : State} {m : MethodId} {args : Array Value} {below : List Frame} {meth : Method} {c : Code} {D : va_G} {ad : Nat → Nat} {cI cJ cZ : ClassId} {res : SS} (hm : mx p s m args meth c cX8_beginBy 5 none wsX8_beginBy RX8) (hR : 3 ≤ R.frames ∧ 69 ≤ R.locals) (hK : va_K D vwCl (tyw cI cJ cZ) s) (hD : ∀ σ, va_D (aM ad) (wM ad cI cJ cZ σ)) (v1 : Int32) (v2 : Int32) (σ : SS) (hf : p_X8_beginBy_0 v1 v2 σ = some res) (H : Heap) (locs : List Loc) (ls : Array Slot) (hP : va_P D vwCl (wM ad cI cJ cZ σ) H) (hS : va_S (aM ad) s.heap H locs) (hl : lv_has ls 5 [(0, .ref (ad 0)), (1, .int v1), (2, .int v2)]) : W p l e R s m args below meth c H locs 0 0 (MQ below (va_Qv (fun (u : SS) => u = res) (fun u t => va_P D vwCl (wM ad cI cJ cZ u) t.heap) (aM ad)) args s 0 0 (aM ad)) (F0 m 0 ls []) := by
  obtain ⟨hx, hb, hr, hml, hown, hts, hlk⟩ := id hm
  unfold p_X8_beginBy_0 at hf
  refine lv_aload_n hx hb dX8_beginBy_0 rfl (lv_at hl 0 rfl) ?_
  refine lv_iload_n hx hb dX8_beginBy_1 rfl (lv_at hl 2 rfl) ?_
  obtain ⟨r_2, hg_2, hf⟩ := oc_e hf
  refine mV_wv (wd := wM ad cI cJ cZ) (σ := σ) (As := [.int v2]) (rest := []) ⟨hx, hb, hml, hown, hts⟩ hK hP hD hS (c_X8_findWith l D ad cI cJ cZ σ v2 hg_2) (cwV 1 hts gX8_beginBy_X8_findWith rfl rfl rfl hd_X8_findWith ⟨Nat.le_trans (Nat.le_of_ble_eq_true rfl) hR.1, Nat.le_trans (Nat.le_of_ble_eq_true rfl) hR.2⟩) rfl (wM_0 _ _ _ _ _) rfl hl.1 rfl (Nat.le_of_ble_eq_true rfl) dX8_beginBy_2 (fun H locs hP hS => ?_)
  refine lv_iconst (v := 0) hx hb dX8_beginBy_5 (by decide) ?_
  refine lv_istore_n (lv' := [(3, .int 0), (0, .ref (ad 0)), (1, .int v1), (2, .int v2)]) hx hb dX8_beginBy_6 rfl hl (by decide) rfl (fun ls hl => ?_)
  exact w_X8_beginBy_7 hm hR hK hD 100000 v1 0 r_2 hf _ _ _ hP hS (lv_sub hl [1, 2, 0] rfl)
theorem hd_X8_beginBy : yX8_beginBy.cls = RX8 ∧ yX8_beginBy.cls ≠ "java/lang/invoke/MethodHandle" ∧ yX8_beginBy.cls ≠ "java/lang/invoke/VarHandle" ∧ (parseMethodDescriptor yX8_beginBy.desc).map (fun d => d.parameters.length) = some 2 := by decide +kernel
set_option maxHeartbeats 4000000 in
set_option maxRecDepth 100000 in
theorem c_X8_beginBy (l : Launch) (D : va_G) (ad : Nat → Nat) (cI cJ cZ : ClassId) (σ : SS) (v1 : Int32) (v2 : Int32) {res : SS} (hf : p_X8_beginBy_0 v1 v2 σ = some res) : Met l yX8_beginBy wsX8_beginBy ({ frames := 3, cells := 0, slots := 0, locals := 69 } : Room) (PW D (tyw cI cJ cZ) (wM ad cI cJ cZ σ) [.ref (ad 0), .int v1, .int v2]) (va_Qv (fun (u : SS) => u = res) (fun u t => va_P D vwCl (wM ad cI cJ cZ u) t.heap) (aM ad)) 0 0 (aM ad) := by
  refine Met.ofW (cc := cX8_beginBy) (maxL := 5) (ret := none) (by decide) rfl ?_
  intro p e s m args below meth c s₁ B hml hv
  obtain ⟨rfl, hP, hK, hD0⟩ := hv
  have hD : ∀ σ, va_D (aM ad) (wM ad cI cJ cZ σ) := fun σ => wd_D hD0 (wM_map _ _ _ _ _) (wM_map _ _ _ _ _)
  have hm : mx p s m _ meth c cX8_beginBy 5 none wsX8_beginBy RX8 := ⟨B.exec, B.bytes, B.returns, hml, findClass_of_methodNamed B.named, atoms_spec (ws := wsX8_beginBy) B.pre, B.notSynchronized⟩
  have hl := lv_entry ([.ref (ad 0), .int v1, .int v2]) (n := 5) (Nat.le_of_ble_eq_true rfl)
  rw [lg_entry_eq]
  generalize (lg_sl ([.ref (ad 0), .int v1, .int v2]) ++ List.replicate (5 - (lg_sl ([.ref (ad 0), .int v1, .int v2])).length) Slot.unset).toArray = ls at hl ⊢
  exact w_X8_beginBy_0 hm ⟨Nat.le_refl _, Nat.le_refl _⟩ hK hD v1 v2 σ hf _ _ _ hP va_S.rf hl
/-! CallGraphsModel.callAll(III)V -/
theorem in_X8_callAll_X8 : ∀ w ∈ u_ws RX8 TX8 50, w ∈ wsX8_callAll := fun w h => List.mem_cons_of_mem _ (List.mem_append_right _ h)
def p_X8_callAll_117 (k14 : Int32 → Int32 → Int32 → Int32 → Int32 → SS → Option (SS)) (v1 : Int32) (v2 : Int32) (v4 : Int32) (v5 : Int32) (v6 : Int32) (σ : SS) : Option (SS) := k14 v1 v2 v4 v5 (v6 + 1) σ
set_option maxHeartbeats 4000000 in
set_option maxRecDepth 100000 in
theorem w_X8_callAll_117 {p : Program} {l : Launch} {e : Env} {R : Room} {s : State} {m : MethodId} {args : Array Value} {below : List Frame} {meth : Method} {c : Code} {D : va_G} {ad : Nat → Nat} {cI cJ cZ : ClassId} {res : SS} (hm : mx p s m args meth c cX8_callAll 8 none wsX8_callAll RX8) (hR : 4 ≤ R.frames ∧ 100 ≤ R.locals) (hK : va_K D vwCl (tyw cI cJ cZ) s) (hD : ∀ σ, va_D (aM ad) (wM ad cI cJ cZ σ)) (k14 : Int32 → Int32 → Int32 → Int32 → Int32 → SS → Option (SS)) (hk14 : ∀ (v1 : Int32) (v2 : Int32) (v4 : Int32) (v5 : Int32) (v6 : Int32) (σ : SS), k14 v1 v2 v4 v5 v6 σ = some res → ∀ (H : Heap) (locs : List Loc) (ls : Array Slot), va_P D vwCl (wM ad cI cJ cZ σ) H → va_S (aM ad) s.heap H locs → lv_has ls 8 [(0, .ref (ad 0)), (1, .int v1), (2, .int v2), (4, .int v4), (5, .int v5), (6, .int v6)] → W p l e R s m args below meth c H locs 0 0 (MQ below (va_Qv (fun (u : SS) => u = res) (fun u t => va_P D vwCl (wM ad cI cJ cZ u) t.heap) (aM ad)) args s 0 0 (aM ad)) (F0 m 14 ls [])) (v1 : Int32) (v2 : Int32) (v4 : Int32) (v5 : Int32) (v6 : Int32) (σ : SS) (hf : p_X8_callAll_117 k14 v1 v2 v4 v5 v6 σ = some res) (H : Heap) (locs : List Loc) (ls : Array Slot) (hP : va_P D vwCl (wM ad cI cJ cZ σ) H) (hS : va_S (aM ad) s.heap H locs) (hl : lv_has ls 8 [(0, .ref (ad 0)), (1, .int v1), (2, .int v2), (4, .int v4), (5, .int v5), (6, .int v6)]) : W p l e R s m args below meth c H locs 0 0 (MQ below (va_Qv (fun (u : SS) => u = res) (fun u t => va_P D vwCl (wM ad cI cJ cZ u) t.heap) (aM ad)) args s 0 0 (aM ad)) (F0 m 117 ls []) := by
  obtain ⟨hx, hb, hr, hml, hown, hts, hlk⟩ := id hm
  unfold p_X8_callAll_117 at hf
  refine lv_iinc (v := (v6 + 1)) (lv' := [(6, .int (v6 + 1)), (0, .ref (ad 0)), (1, .int v1), (2, .int v2), (4, .int v4), (5, .int v5)]) hx hb dX8_callAll_117 hl (k := 5) rfl rfl (by decide) rfl (fun ls hl => ?_)
  refine lv_goto (tgt := 14) hx hb dX8_callAll_120 (by decide) ?_
  exact hk14 v1 v2 v4 v5 (v6 + 1) σ hf _ _ _ hP hS (lv_sub hl [1, 2, 3, 4, 5, 0] rfl)
def p_X8_callAll_114 (k14 : Int32 → Int32 → Int32 → Int32 → Int32 → SS → Option (SS)) (v1 : Int32) (v2 : Int32) (v4 : Int32) (v6 : Int32) (σ : SS) : Option (SS) := p_X8_callAll_117 k14 v1 v2 v4 1 v6 σ
set_option maxHeartbeats 4000000 in
set_option maxRecDepth 100000 in
theorem w_X8_callAll_114 {p : Program} {l : Launch} {e : Env} {R : Room} {s : State} {m : MethodId} {args : Array Value} {below : List Frame} {meth : Method} {c : Code} {D : va_G} {ad : Nat → Nat} {cI cJ cZ : ClassId} {res : SS} (hm : mx p s m args meth c cX8_callAll 8 none wsX8_callAll RX8) (hR : 4 ≤ R.frames ∧ 100 ≤ R.locals) (hK : va_K D vwCl (tyw cI cJ cZ) s) (hD : ∀ σ, va_D (aM ad) (wM ad cI cJ cZ σ)) (k14 : Int32 → Int32 → Int32 → Int32 → Int32 → SS → Option (SS)) (hk14 : ∀ (v1 : Int32) (v2 : Int32) (v4 : Int32) (v5 : Int32) (v6 : Int32) (σ : SS), k14 v1 v2 v4 v5 v6 σ = some res → ∀ (H : Heap) (locs : List Loc) (ls : Array Slot), va_P D vwCl (wM ad cI cJ cZ σ) H → va_S (aM ad) s.heap H locs → lv_has ls 8 [(0, .ref (ad 0)), (1, .int v1), (2, .int v2), (4, .int v4), (5, .int v5), (6, .int v6)] → W p l e R s m args below meth c H locs 0 0 (MQ below (va_Qv (fun (u : SS) => u = res) (fun u t => va_P D vwCl (wM ad cI cJ cZ u) t.heap) (aM ad)) args s 0 0 (aM ad)) (F0 m 14 ls [])) (v1 : Int32) (v2 : Int32) (v4 : Int32) (v6 : Int32) (σ : SS) (hf : p_X8_callAll_114 k14 v1 v2 v4 v6 σ = some res) (H : Heap) (locs : List Loc) (ls : Array Slot) (hP : va_P D vwCl (wM ad cI cJ cZ σ) H) (hS : va_S (aM ad) s.heap H locs) (hl : lv_has ls 8 [(0, .ref (ad 0)), (1, .int v1), (2, .int v2), (4, .int v4), (6, .int v6)]) : W p l e R s m args below meth c H locs 0 0 (MQ below (va_Qv (fun (u : SS) => u = res) (fun u t => va_P D vwCl (wM ad cI cJ cZ u) t.heap) (aM ad)) args s 0 0 (aM ad)) (F0 m 114 ls []) := by
  obtain ⟨hx, hb, hr, hml, hown, hts, hlk⟩ := id hm
  unfold p_X8_callAll_114 at hf
  refine lv_iconst (v := 1) hx hb dX8_callAll_114 (by decide) ?_
  refine lv_istore (lv' := [(5, .int 1), (0, .ref (ad 0)), (1, .int v1), (2, .int v2), (4, .int v4), (6, .int v6)]) hx hb dX8_callAll_115 hl (by decide) rfl (fun ls hl => ?_)
  exact w_X8_callAll_117 hm hR hK hD k14 hk14 v1 v2 v4 1 v6 σ hf _ _ _ hP hS (lv_sub hl [1, 2, 3, 4, 0, 5] rfl)
def p_X8_callAll_107 (k14 : Int32 → Int32 → Int32 → Int32 → Int32 → SS → Option (SS)) (v1 : Int32) (v2 : Int32) (v4 : Int32) (v6 : Int32) (v7 : Int32) (σ : SS) : Option (SS) := oc (p_X8_fault_0 v1 v7 σ) (fun r_111 => p_X8_callAll_114 k14 v1 v2 v4 v6 r_111)
set_option maxHeartbeats 4000000 in
set_option maxRecDepth 100000 in
theorem w_X8_callAll_107 {p : Program} {l : Launch} {e : Env} {R : Room} {s : State} {m : MethodId} {args : Array Value} {below : List Frame} {meth : Method} {c : Code} {D : va_G} {ad : Nat → Nat} {cI cJ cZ : ClassId} {res : SS} (hm : mx p s m args meth c cX8_callAll 8 none wsX8_callAll RX8) (hR : 4 ≤ R.frames ∧ 100 ≤ R.locals) (hK : va_K D vwCl (tyw cI cJ cZ) s) (hD : ∀ σ, va_D (aM ad) (wM ad cI cJ cZ σ)) (k14 : Int32 → Int32 → Int32 → Int32 → Int32 → SS → Option (SS)) (hk14 : ∀ (v1 : Int32) (v2 : Int32) (v4 : Int32) (v5 : Int32) (v6 : Int32) (σ : SS), k14 v1 v2 v4 v5 v6 σ = some res → ∀ (H : Heap) (locs : List Loc) (ls : Array Slot), va_P D vwCl (wM ad cI cJ cZ σ) H → va_S (aM ad) s.heap H locs → lv_has ls 8 [(0, .ref (ad 0)), (1, .int v1), (2, .int v2), (4, .int v4), (5, .int v5), (6, .int v6)] → W p l e R s m args below meth c H locs 0 0 (MQ below (va_Qv (fun (u : SS) => u = res) (fun u t => va_P D vwCl (wM ad cI cJ cZ u) t.heap) (aM ad)) args s 0 0 (aM ad)) (F0 m 14 ls [])) (v1 : Int32) (v2 : Int32) (v4 : Int32) (v6 : Int32) (v7 : Int32) (σ : SS) (hf : p_X8_callAll_107 k14 v1 v2 v4 v6 v7 σ = some res) (H : Heap) (locs : List Loc) (ls : Array Slot) (hP : va_P D vwCl (wM ad cI cJ cZ σ) H) (hS : va_S (aM ad) s.heap H locs) (hl : lv_has ls 8 [(0, .ref (ad 0)), (1, .int v1), (2, .int v2), (4, .int v4), (6, .int v6), (7, .int v7)]) : W p l e R s m args below meth c H locs 0 0 (MQ below (va_Qv (fun (u : SS) => u = res) (fun u t => va_P D vwCl (wM ad cI cJ cZ u) t.heap) (aM ad)) args s 0 0 (aM ad)) (F0 m 107 ls []) := by
  obtain ⟨hx, hb, hr, hml, hown, hts, hlk⟩ := id hm
  unfold p_X8_callAll_107 at hf
  refine lv_aload_n hx hb dX8_callAll_107 rfl (lv_at hl 0 rfl) ?_
  refine lv_iload_n hx hb dX8_callAll_108 rfl (lv_at hl 1 rfl) ?_
  refine lv_iload hx hb dX8_callAll_109 (lv_at hl 5 rfl) ?_
  obtain ⟨r_111, hg_111, hf⟩ := oc_e hf
  refine mV_wv (wd := wM ad cI cJ cZ) (σ := σ) (As := [.int v1, .int v7]) (rest := []) ⟨hx, hb, hml, hown, hts⟩ hK hP hD hS (c_X8_fault l D ad cI cJ cZ σ v1 v7 hg_111) (cwV 2 hts gX8_callAll_X8_fault rfl rfl rfl hd_X8_fault ⟨Nat.le_trans (Nat.le_of_ble_eq_true rfl) hR.1, Nat.le_trans (Nat.le_of_ble_eq_true rfl) hR.2⟩) rfl (wM_0 _ _ _ _ _) rfl hl.1 rfl (Nat.le_of_ble_eq_true rfl) dX8_callAll_111 (fun H locs hP hS => ?_)
  exact w_X8_callAll_114 hm hR hK hD k14 hk14 v1 v2 v4 v6 r_111 hf _ _ _ hP hS (lv_sub hl [0, 1, 2, 3, 4] rfl)
def p_X8_callAll_78 (k14 : Int32 → Int32 → Int32 → Int32 → Int32 → SS → Option (SS)) (v1 : Int32) (v2 : Int32) (v4 : Int32) (v5 : Int32) (v6 : Int32) (t0 : Int32) (σ : SS) : Option (SS) := if t0 < 0 then if t0 ≤ (-4) then p_X8_callAll_107 k14 v1 v2 v4 v6 t0 σ else if v5 = 0 then p_X8_callAll_107 k14 v1 v2 v4 v6 t0 σ else p_X8_callAll_114 k14 v1 v2 v4 v6 σ else oc (p_X8_call_0 v1 t0 σ) (fun r_89 => p_X8_callAll_114 k14 v1 v2 v4 v6 r_89)
set_option maxHeartbeats 4000000 in
set_option maxRecDepth 100000 in
theorem w_X8_callAll_78 {p : Program} {l : Launch} {e : Env} {R : Room} {s : State} {m : MethodId} {args : Array Value} {below : List Frame} {meth : Method} {c : Code} {D : va_G} {ad : Nat → Nat} {cI cJ cZ : ClassId} {res : SS} (hm : mx p s m args meth c cX8_callAll 8 none wsX8_callAll RX8) (hR : 4 ≤ R.frames ∧ 100 ≤ R.locals) (hK : va_K D vwCl (tyw cI cJ cZ) s) (hD : ∀ σ, va_D (aM ad) (wM ad cI cJ cZ σ)) (k14 : Int32 → Int32 → Int32 → Int32 → Int32 → SS → Option (SS)) (hk14 : ∀ (v1 : Int32) (v2 : Int32) (v4 : Int32) (v5 : Int32) (v6 : Int32) (σ : SS), k14 v1 v2 v4 v5 v6 σ = some res → ∀ (H : Heap) (locs : List Loc) (ls : Array Slot), va_P D vwCl (wM ad cI cJ cZ σ) H → va_S (aM ad) s.heap H locs → lv_has ls 8 [(0, .ref (ad 0)), (1, .int v1), (2, .int v2), (4, .int v4), (5, .int v5), (6, .int v6)] → W p l e R s m args below meth c H locs 0 0 (MQ below (va_Qv (fun (u : SS) => u = res) (fun u t => va_P D vwCl (wM ad cI cJ cZ u) t.heap) (aM ad)) args s 0 0 (aM ad)) (F0 m 14 ls [])) (v1 : Int32) (v2 : Int32) (v4 : Int32) (v5 : Int32) (v6 : Int32) (t0 : Int32) (σ : SS) (hf : p_X8_callAll_78 k14 v1 v2 v4 v5 v6 t0 σ = some res) (H : Heap) (locs : List Loc) (ls : Array Slot) (hP : va_P D vwCl (wM ad cI cJ cZ σ) H) (hS : va_S (aM ad) s.heap H locs) (hl : lv_has ls 8 [(0, .ref (ad 0)), (1, .int v1), (2, .int v2), (4, .int v4), (5, .int v5), (6, .int v6)]) : W p l e R s m args below meth c H locs 0 0 (MQ below (va_Qv (fun (u : SS) => u = res) (fun u t => va_P D vwCl (wM ad cI cJ cZ u) t.heap) (aM ad)) args s 0 0 (aM ad)) (F0 m 78 ls [.int t0]) := by
  obtain ⟨hx, hb, hr, hml, hown, hts, hlk⟩ := id hm
  unfold p_X8_callAll_78 at hf
  refine lv_istore (lv' := [(7, .int t0), (0, .ref (ad 0)), (1, .int v1), (2, .int v2), (4, .int v4), (5, .int v5), (6, .int v6)]) hx hb dX8_callAll_78 hl (by decide) rfl (fun ls hl => ?_)
  refine lv_iload hx hb dX8_callAll_80 (lv_at hl 0 rfl) ?_
  refine lv_if_lt (tgt := 95) hx hb dX8_callAll_82 (by decide) (fun c_82 => ?_) (fun c_82 => ?_)
  · rw [if_pos c_82] at hf
    refine lv_iload hx hb dX8_callAll_95 (lv_at hl 0 rfl) ?_
    refine lv_bipush (v := (-4)) hx hb dX8_callAll_97 (by decide) ?_
    refine lv_icmp_le (tgt := 107) hx hb dX8_callAll_99 (by decide) (fun c_99 => ?_) (fun c_99 => ?_)
    · rw [if_pos c_99] at hf
      exact w_X8_callAll_107 hm hR hK hD k14 hk14 v1 v2 v4 v6 t0 σ hf _ _ _ hP hS (lv_sub hl [1, 2, 3, 4, 6, 0] rfl)
    · rw [if_neg c_99] at hf
      refine lv_iload hx hb dX8_callAll_102 (lv_at hl 5 rfl) ?_
      refine lv_if_ne (tgt := 114) hx hb dX8_callAll_104 (by decide) (fun c_104 => ?_) (fun c_104 => ?_)
      · rw [if_neg c_104] at hf
        exact w_X8_callAll_114 hm hR hK hD k14 hk14 v1 v2 v4 v6 σ hf _ _ _ hP hS (lv_sub hl [1, 2, 3, 4, 6] rfl)
      · rw [if_pos c_104] at hf
        exact w_X8_callAll_107 hm hR hK hD k14 hk14 v1 v2 v4 v6 t0 σ hf _ _ _ hP hS (lv_sub hl [1, 2, 3, 4, 6, 0] rfl)
  · rw [if_neg c_82] at hf
    refine lv_aload_n hx hb dX8_callAll_85 rfl (lv_at hl 1 rfl) ?_
    refine lv_iload_n hx hb dX8_callAll_86 rfl (lv_at hl 2 rfl) ?_
    refine lv_iload hx hb dX8_callAll_87 (lv_at hl 0 rfl) ?_
    obtain ⟨r_89, hg_89, hf⟩ := oc_e hf
    refine mV_wv (wd := wM ad cI cJ cZ) (σ := σ) (As := [.int v1, .int t0]) (rest := []) ⟨hx, hb, hml, hown, hts⟩ hK hP hD hS (c_X8_call l D ad cI cJ cZ σ v1 t0 hg_89) (cwV 2 hts gX8_callAll_X8_call rfl rfl rfl hd_X8_call ⟨Nat.le_trans (Nat.le_of_ble_eq_true rfl) hR.1, Nat.le_trans (Nat.le_of_ble_eq_true rfl) hR.2⟩) rfl (wM_0 _ _ _ _ _) rfl hl.1 rfl (Nat.le_of_ble_eq_true rfl) dX8_callAll_89 (fun H locs hP hS => ?_)
    refine lv_goto (tgt := 114) hx hb dX8_callAll_92 (by decide) ?_
    exact w_X8_callAll_114 hm hR hK hD k14 hk14 v1 v2 v4 v6 r_89 hf _ _ _ hP hS (lv_sub hl [1, 2, 3, 4, 6] rfl)
def p_X8_callAll_14 : Nat → Int32 → Int32 → Int32 → Int32 → Int32 → SS → Option (SS)
  | 0, _, _, _, _, _, _ => none
  | n + 1, v1, v2, v4, v5, v6, σ => let k14 := p_X8_callAll_14 n; if (σ.1 0 0) ≤ v6 then some σ else oi v6 16 (if (σ.1 15 v6.toNatClampNeg) = 0 then p_X8_callAll_117 k14 v1 v2 v4 v5 v6 σ else oc (p_X8_isUnder_0 v6 v2 σ) (fun r_37 => if r_37.1 = 0 then p_X8_callAll_117 k14 v1 v2 v4 v5 v6 r_37.2 else if v4 = (-1) then p_X8_callAll_78 k14 v1 v2 v4 v5 v6 (-2) r_37.2 else oi v4 48 (if (r_37.2.1 7 v4.toNatClampNeg) = 2 then p_X8_callAll_78 k14 v1 v2 v4 v5 v6 (-3) r_37.2 else oc (p_X8_choose_0 v6 v4 r_37.2) (fun r_75 => p_X8_callAll_78 k14 v1 v2 v4 v5 v6 r_75.1 r_75.2))))
set_option maxHeartbeats 4000000 in
set_option maxRecDepth 100000 in
theorem w_X8_callAll_14 {p : Program} {l : Launch} {e : Env} {R : Room} {s : State} {m : MethodId} {args : Array Value} {below : List Frame} {meth : Method} {c : Code} {D : va_G} {ad : Nat → Nat} {cI cJ cZ : ClassId} {res : SS} (hm : mx p s m args meth c cX8_callAll 8 none wsX8_callAll RX8) (hR : 4 ≤ R.frames ∧ 100 ≤ R.locals) (hK : va_K D vwCl (tyw cI cJ cZ) s) (hD : ∀ σ, va_D (aM ad) (wM ad cI cJ cZ σ)) : ∀ (n : Nat) (v1 : Int32) (v2 : Int32) (v4 : Int32) (v5 : Int32) (v6 : Int32) (σ : SS), p_X8_callAll_14 n v1 v2 v4 v5 v6 σ = some res → ∀ (H : Heap) (locs : List Loc) (ls : Array Slot), va_P D vwCl (wM ad cI cJ cZ σ) H → va_S (aM ad) s.heap H locs → lv_has ls 8 [(0, .ref (ad 0)), (1, .int v1), (2, .int v2), (4, .int v4), (5, .int v5), (6, .int v6)] → W p l e R s m args below meth c H locs 0 0 (MQ below (va_Qv (fun (u : SS) => u = res) (fun u t => va_P D vwCl (wM ad cI cJ cZ u) t.heap) (aM ad)) args s 0 0 (aM ad)) (F0 m 14 ls []) := by
  obtain ⟨hx, hb, hr, hml, hown, hts, hlk⟩ := id hm
  intro n
  induction n with
  | zero =>
    intro _ _ _ _ _ _ hf
    cases hf
  | succ n hk14 =>
    intro v1 v2 v4 v5 v6 σ hf H locs ls hP hS hl
    rw [p_X8_callAll_14] at hf
    try dsimp only at hf
    refine lv_iload hx hb dX8_callAll_14 (lv_at hl 5 rfl) ?_
    refine lv_aload_n hx hb dX8_callAll_16 rfl (lv_at hl 0 rfl) ?_
    refine va_get (D := D) (ci := 7) (v := .int (σ.1 0 0)) (C := RX8) (T := TX8) (N := 50) hx hb hts in_X8_callAll_X8 hown hK hP 0 (wM_0 _ _ _ _ _) rfl 0 (by decide) (hts (.fieldLink RX8 123 "CallGraphsModel" "types" "I") (List.mem_of_getElem? (i := 1) rfl)) (fun _ h9 => h9) (fM_0_0 _ _) dX8_callAll_17 ?_
    refine lv_icmp_ge (tgt := 123) hx hb dX8_callAll_20 (by decide) (fun c_20 => ?_) (fun c_20 => ?_)
    · rw [if_pos c_20] at hf
      exact rt_v (wd := wM ad cI cJ cZ) hx hb hr hlk (Option.some.inj hf) hP hS dX8_callAll_123
    · rw [if_neg c_20] at hf
      refine lv_aload_n hx hb dX8_callAll_23 rfl (lv_at hl 0 rfl) ?_
      refine va_get (D := D) (ci := 7) (v := .ref (ad 15)) (C := RX8) (T := TX8) (N := 50) hx hb hts in_X8_callAll_X8 hown hK hP 0 (wM_0 _ _ _ _ _) rfl 19 (by decide) (hts (.fieldLink RX8 53 "CallGraphsModel" "madeAt" "[Z") (List.mem_of_getElem? (i := 2) rfl)) (fun _ h9 => h9) (fM_0_19 _ _) dX8_callAll_24 ?_
      refine lv_iload hx hb dX8_callAll_27 (lv_at hl 5 rfl) ?_
      obtain ⟨h_29, hf⟩ := oi_e hf
      refine va_zald hx hb hK hP 15 2 (wM_15 _ _ _ _ _) rfl h_29 dX8_callAll_29 ?_
      refine lv_if_eq (tgt := 117) hx hb dX8_callAll_30 (by decide) (fun c_30 => ?_) (fun c_30 => ?_)
      · rw [if_pos c_30] at hf
        exact w_X8_callAll_117 hm hR hK hD (p_X8_callAll_14 n) hk14 v1 v2 v4 v5 v6 σ hf _ _ _ hP hS (lv_sub hl [0, 1, 2, 3, 4, 5] rfl)
      · rw [if_neg c_30] at hf
        refine lv_aload_n hx hb dX8_callAll_33 rfl (lv_at hl 0 rfl) ?_
        refine lv_iload hx hb dX8_callAll_34 (lv_at hl 5 rfl) ?_
        refine lv_iload_n hx hb dX8_callAll_36 rfl (lv_at hl 2 rfl) ?_
        obtain ⟨r_37, hg_37, hf⟩ := oc_e hf
        refine mV_wi (wd := wM ad cI cJ cZ) (σ := σ) (As := [.int v6, .int v2]) (rest := []) ⟨hx, hb, hml, hown, hts⟩ hK hP hD hS (c_X8_isUnder l D ad cI cJ cZ σ v6 v2 hg_37) (cwV 2 hts gX8_callAll_X8_isUnder rfl rfl rfl hd_X8_isUnder ⟨Nat.le_trans (Nat.le_of_ble_eq_true rfl) hR.1, Nat.le_trans (Nat.le_of_ble_eq_true rfl) hR.2⟩) rfl (wM_0 _ _ _ _ _) rfl hl.1 rfl (Nat.le_of_ble_eq_true rfl) dX8_callAll_37 (fun H locs hP hS => ?_)
        refine lv_if_eq (tgt := 117) hx hb dX8_callAll_40 (by decide) (fun c_40 => ?_) (fun c_40 => ?_)
        · rw [if_pos c_40] at hf
          exact w_X8_callAll_117 hm hR hK hD (p_X8_callAll_14 n) hk14 v1 v2 v4 v5 v6 r_37.2 hf _ _ _ hP hS (lv_sub hl [0, 1, 2, 3, 4, 5] rfl)
        · rw [if_neg c_40] at hf
          refine lv_iload hx hb dX8_callAll_43 (lv_at hl 3 rfl) ?_
          refine lv_iconst (v := (-1)) hx hb dX8_callAll_45 (by decide) ?_
          refine lv_icmp_ne (tgt := 54) hx hb dX8_callAll_46 (by decide) (fun c_46 => ?_) (fun c_46 => ?_)
          · rw [if_neg c_46] at hf
            refine lv_aload_n hx hb dX8_callAll_54 rfl (lv_at hl 0 rfl) ?_
            refine va_get (D := D) (ci := 7) (v := .ref (ad 7)) (C := RX8) (T := TX8) (N := 50) hx hb hts in_X8_callAll_X8 hown hK hP 0 (wM_0 _ _ _ _ _) rfl 8 (by decide) (hts (.fieldLink RX8 28 "CallGraphsModel" "sortOf" "[I") (List.mem_of_getElem? (i := 3) rfl)) (fun _ h9 => h9) (fM_0_8 _ _) dX8_callAll_55 ?_
            refine lv_iload hx hb dX8_callAll_58 (lv_at hl 3 rfl) ?_
            obtain ⟨h_60, hf⟩ := oi_e hf
            refine va_iald hx hb hK hP 7 0 (wM_7 _ _ _ _ _) rfl h_60 dX8_callAll_60 ?_
            refine lv_iconst (v := 2) hx hb dX8_callAll_61 (by decide) ?_
            refine lv_icmp_ne (tgt := 70) hx hb dX8_callAll_62 (by decide) (fun c_62 => ?_) (fun c_62 => ?_)
            · rw [if_neg c_62] at hf
              refine lv_aload_n hx hb dX8_callAll_70 rfl (lv_at hl 0 rfl) ?_
              refine lv_iload hx hb dX8_callAll_71 (lv_at hl 5 rfl) ?_
              refine lv_iload hx hb dX8_callAll_73 (lv_at hl 3 rfl) ?_
              obtain ⟨r_75, hg_75, hf⟩ := oc_e hf
              refine mV_wi (wd := wM ad cI cJ cZ) (σ := r_37.2) (As := [.int v6, .int v4]) (rest := []) ⟨hx, hb, hml, hown, hts⟩ hK hP hD hS (c_X8_choose l D ad cI cJ cZ r_37.2 v6 v4 hg_75) (cwV 2 hts gX8_callAll_X8_choose rfl rfl rfl hd_X8_choose ⟨Nat.le_trans (Nat.le_of_ble_eq_true rfl) hR.1, Nat.le_trans (Nat.le_of_ble_eq_true rfl) hR.2⟩) rfl (wM_0 _ _ _ _ _) rfl hl.1 rfl (Nat.le_of_ble_eq_true rfl) dX8_callAll_75 (fun H locs hP hS => ?_)
              exact w_X8_callAll_78 hm hR hK hD (p_X8_callAll_14 n) hk14 v1 v2 v4 v5 v6 r_75.1 r_75.2 hf _ _ _ hP hS (lv_sub hl [0, 1, 2, 3, 4, 5] rfl)
            · rw [if_pos c_62] at hf
              refine lv_bipush (v := (-3)) hx hb dX8_callAll_65 (by decide) ?_
              refine lv_goto (tgt := 78) hx hb dX8_callAll_67 (by decide) ?_
              exact w_X8_callAll_78 hm hR hK hD (p_X8_callAll_14 n) hk14 v1 v2 v4 v5 v6 (-3) r_37.2 hf _ _ _ hP hS (lv_sub hl [0, 1, 2, 3, 4, 5] rfl)
          · rw [if_pos c_46] at hf
            refine lv_bipush (v := (-2)) hx hb dX8_callAll_49 (by decide) ?_
            refine lv_goto (tgt := 78) hx hb dX8_callAll_51 (by decide) ?_
            exact w_X8_callAll_78 hm hR hK hD (p_X8_callAll_14 n) hk14 v1 v2 v4 v5 v6 (-2) r_37.2 hf _ _ _ hP hS (lv_sub hl [0, 1, 2, 3, 4, 5] rfl)
def p_X8_callAll_0 (v1 : Int32) (v2 : Int32) (v3 : Int32) (σ : SS) : Option (SS) := oc (p_X8_find_0 v2 v3 σ) (fun r_3 => p_X8_callAll_14 100000 v1 v2 r_3.1 0 0 r_3.2)
set_option maxHeartbeats 4000000 in
set_option maxRecDepth 100000 in
theorem w_X8_callAll_0 {p : Program} {l : Launch} {e : Env} {R : Room} {s : State} {m : MethodId} {args : Array Value} {below : List Frame} {meth : Method} {c : Code} {D : va_G} {ad : Nat → Nat} {cI cJ cZ : ClassId} {res : SS} (hm : mx p s m args meth c cX8_callAll 8 none wsX8_callAll RX8) (hR : 4 ≤ R.frames ∧ 100 ≤ R.locals) (hK : va_K D vwCl (tyw cI cJ cZ) s) (hD : ∀ σ, va_D (aM ad) (wM ad cI cJ cZ σ)) (v1 : Int32) (v2 : Int32) (v3 : Int32) (σ : SS) (hf : p_X8_callAll_0 v1 v2 v3 σ = some res) (H : Heap) (locs : List Loc) (ls : Array Slot) (hP : va_P D vwCl (wM ad cI cJ cZ σ) H) (hS : va_S (aM ad) s.heap H locs) (hl : lv_has ls 8 [(0, .ref (ad 0)), (1, .int v1), (2, .int v2), (3, .int v3)]) : W p l e R s m args below meth c H locs 0 0 (MQ below (va_Qv (fun (u : SS) => u = res) (fun u t => va_P D vwCl (wM ad cI cJ cZ u) t.heap) (aM ad)) args s 0 0 (aM ad)) (F0 m 0 ls []) := by
  obtain ⟨hx, hb, hr, hml, hown, hts, hlk⟩ := id hm
  unfold p_X8_callAll_0 at hf
  refine lv_aload_n hx hb dX8_callAll_0 rfl (lv_at hl 0 rfl) ?_
  refine lv_iload_n hx hb dX8_callAll_1 rfl (lv_at hl 2 rfl) ?_
  refine lv_iload_n hx hb dX8_callAll_2 rfl (lv_at hl 3 rfl) ?_
  obtain ⟨r_3, hg_3, hf⟩ := oc_e hf
  refine mV_wi (wd := wM ad cI cJ cZ) (σ := σ) (As := [.int v2, .int v3]) (rest := []) ⟨hx, hb, hml, hown, hts⟩ hK hP hD hS (c_X8_find l D ad cI cJ cZ σ v2 v3 hg_3) (cwV 2 hts gX8_callAll_X8_find rfl rfl rfl hd_X8_find ⟨Nat.le_trans (Nat.le_of_ble_eq_true rfl) hR.1, Nat.le_trans (Nat.le_of_ble_eq_true rfl) hR.2⟩) rfl (wM_0 _ _ _ _ _) rfl hl.1 rfl (Nat.le_of_ble_eq_true rfl) dX8_callAll_3 (fun H locs hP hS => ?_)
  refine lv_istore (lv' := [(4, .int r_3.1), (0, .ref (ad 0)), (1, .int v1), (2, .int v2), (3, .int v3)]) hx hb dX8_callAll_6 hl (by decide) rfl (fun ls hl => ?_)
  refine lv_iconst (v := 0) hx hb dX8_callAll_8 (by decide) ?_
  refine lv_istore (lv' := [(5, .int 0), (4, .int r_3.1), (0, .ref (ad 0)), (1, .int v1), (2, .int v2), (3, .int v3)]) hx hb dX8_callAll_9 hl (by decide) rfl (fun ls hl => ?_)
  refine lv_iconst (v := 0) hx hb dX8_callAll_11 (by decide) ?_
  refine lv_istore (lv' := [(6, .int 0), (5, .int 0), (4, .int r_3.1), (0, .ref (ad 0)), (1, .int v1), (2, .int v2), (3, .int v3)]) hx hb dX8_callAll_12 hl (by decide) rfl (fun ls hl => ?_)
  exact w_X8_callAll_14 hm hR hK hD 100000 v1 v2 r_3.1 0 0 r_3.2 hf _ _ _ hP hS (lv_sub hl [3, 4, 5, 2, 1, 0] rfl)
theorem hd_X8_callAll : yX8_callAll.cls = RX8 ∧ yX8_callAll.cls ≠ "java/lang/invoke/MethodHandle" ∧ yX8_callAll.cls ≠ "java/lang/invoke/VarHandle" ∧ (parseMethodDescriptor yX8_callAll.desc).map (fun d => d.parameters.length) = some 3 := by decide +kernel
set_option maxHeartbeats 4000000 in
set_option maxRecDepth 100000 in
theorem c_X8_callAll (l : Launch) (D : va_G) (ad : Nat → Nat) (cI cJ cZ : ClassId) (σ : SS) (v1 : Int32) (v2 : Int32) (v3 : Int32) {res : SS} (hf : p_X8_callAll_0 v1 v2 v3 σ = some res) : Met l yX8_callAll wsX8_callAll ({ frames := 4, cells := 0, slots := 0, locals := 100 } : Room) (PW D (tyw cI cJ cZ) (wM ad cI cJ cZ σ) [.ref (ad 0), .int v1, .int v2, .int v3]) (va_Qv (fun (u : SS) => u = res) (fun u t => va_P D vwCl (wM ad cI cJ cZ u) t.heap) (aM ad)) 0 0 (aM ad) := by
  refine Met.ofW (cc := cX8_callAll) (maxL := 8) (ret := none) (by decide) rfl ?_
  intro p e s m args below meth c s₁ B hml hv
  obtain ⟨rfl, hP, hK, hD0⟩ := hv
  have hD : ∀ σ, va_D (aM ad) (wM ad cI cJ cZ σ) := fun σ => wd_D hD0 (wM_map _ _ _ _ _) (wM_map _ _ _ _ _)
  have hm : mx p s m _ meth c cX8_callAll 8 none wsX8_callAll RX8 := ⟨B.exec, B.bytes, B.returns, hml, findClass_of_methodNamed B.named, atoms_spec (ws := wsX8_callAll) B.pre, B.notSynchronized⟩
  have hl := lv_entry ([.ref (ad 0), .int v1, .int v2, .int v3]) (n := 8) (Nat.le_of_ble_eq_true rfl)
  rw [lg_entry_eq]
  generalize (lg_sl ([.ref (ad 0), .int v1, .int v2, .int v3]) ++ List.replicate (8 - (lg_sl ([.ref (ad 0), .int v1, .int v2, .int v3])).length) Slot.unset).toArray = ls at hl ⊢
  exact w_X8_callAll_0 hm ⟨Nat.le_refl _, Nat.le_refl _⟩ hK hD v1 v2 v3 σ hf _ _ _ hP va_S.rf hl
/-! CallGraphsModel.follow(I)V -/
theorem in_X8_follow_X8 : ∀ w ∈ u_ws RX8 TX8 50, w ∈ wsX8_follow := fun w h => List.mem_cons_of_mem _ (List.mem_append_right _ h)
def p_X8_follow_388 (σ : SS) : Option (SS) := some σ
set_option maxHeartbeats 4000000 in
set_option maxRecDepth 100000 in
theorem w_X8_follow_388 {p : Program} {l : Launch} {e : Env} {R : Room} {s : State} {m : MethodId} {args : Array Value} {below : List Frame} {meth : Method} {c : Code} {D : va_G} {ad : Nat → Nat} {cI cJ cZ : ClassId} {res : SS} (hm : mx p s m args meth c cX8_follow 7 none wsX8_follow RX8) (hR : 5 ≤ R.frames ∧ 127 ≤ R.locals) (hK : va_K D vwCl (tyw cI cJ cZ) s) (hD : ∀ σ, va_D (aM ad) (wM ad cI cJ cZ σ)) (σ : SS) (hf : p_X8_follow_388 σ = some res) (H : Heap) (locs : List Loc) (ls : Array Slot) (hP : va_P D vwCl (wM ad cI cJ cZ σ) H) (hS : va_S (aM ad) s.heap H locs) (hl : lv_has ls 7 []) : W p l e R s m args below meth c H locs 0 0 (MQ below (va_Qv (fun (u : SS) => u = res) (fun u t => va_P D vwCl (wM ad cI cJ cZ u) t.heap) (aM ad)) args s 0 0 (aM ad)) (F0 m 388 ls []) := by
  obtain ⟨hx, hb, hr, hml, hown, hts, hlk⟩ := id hm
  unfold p_X8_follow_388 at hf
  exact rt_v (wd := wM ad cI cJ cZ) hx hb hr hlk (Option.some.inj hf) hP hS dX8_follow_388
def p_X8_follow_110 (v1 : Int32) (v2 : Int32) (t0 : Int32) (σ : SS) : Option (SS) := ob t0 (os (sI σ 0 17 t0) (fun s_110 => oi v2 16 (os (sI s_110 15 (v2.toNatClampNeg) 1) (fun s_119 => oc (p_X8_beginBy_0 v1 v2 s_119) (fun r_123 => p_X8_follow_388 r_123)))))
set_option maxHeartbeats 4000000 in
set_option maxRecDepth 100000 in
theorem w_X8_follow_110 {p : Program} {l : Launch} {e : Env} {R : Room} {s : State} {m : MethodId} {args : Array Value} {below : List Frame} {meth : Method} {c : Code} {D : va_G} {ad : Nat → Nat} {cI cJ cZ : ClassId} {res : SS} (hm : mx p s m args meth c cX8_follow 7 none wsX8_follow RX8) (hR : 5 ≤ R.frames ∧ 127 ≤ R.locals) (hK : va_K D vwCl (tyw cI cJ cZ) s) (hD : ∀ σ, va_D (aM ad) (wM ad cI cJ cZ σ)) (v1 : Int32) (v2 : Int32) (t0 : Int32) (σ : SS) (hf : p_X8_follow_110 v1 v2 t0 σ = some res) (H : Heap) (locs : List Loc) (ls : Array Slot) (hP : va_P D vwCl (wM ad cI cJ cZ σ) H) (hS : va_S (aM ad) s.heap H locs) (hl : lv_has ls 7 [(0, .ref (ad 0)), (1, .int v1), (2, .int v2)]) : W p l e R s m args below meth c H locs 0 0 (MQ below (va_Qv (fun (u : SS) => u = res) (fun u t => va_P D vwCl (wM ad cI cJ cZ u) t.heap) (aM ad)) args s 0 0 (aM ad)) (F0 m 110 ls [.int t0, .ref (ad 0)]) := by
  obtain ⟨hx, hb, hr, hml, hown, hts, hlk⟩ := id hm
  unfold p_X8_follow_110 at hf
  obtain ⟨h_110, hf⟩ := ob_e hf
  refine va_put (D := D) (ci := 7) (v := .int t0) (ty := .boolean) (C := RX8) (T := TX8) (N := 50) hx hb hts in_X8_follow_X8 tyX8 tyX8_ok nmX8 hown hK hP (hD _) hS 0 (wM_0 _ _ _ _ _) rfl 17 (by decide) (hts (.fieldLink RX8 186 "CallGraphsModel" "grew" "Z") (List.mem_of_getElem? (i := 5) rfl)) (fun _ h9 => h9) rfl (tyX8_ok 17 (by decide)) (nb_n h_110) (nb_f h_110) (Nat.le_of_ble_eq_true rfl) dX8_follow_110 (fun H locs hP _ hS => ?_)
  have hP := wM_p0_17 hP
  obtain ⟨s_110, es_110, hf⟩ := os_e hf
  rw [← es_110] at hP
  refine lv_aload_n hx hb dX8_follow_113 rfl (lv_at hl 0 rfl) ?_
  refine va_get (D := D) (ci := 7) (v := .ref (ad 15)) (C := RX8) (T := TX8) (N := 50) hx hb hts in_X8_follow_X8 hown hK hP 0 (wM_0 _ _ _ _ _) rfl 19 (by decide) (hts (.fieldLink RX8 53 "CallGraphsModel" "madeAt" "[Z") (List.mem_of_getElem? (i := 6) rfl)) (fun _ h9 => h9) (fM_0_19 _ _) dX8_follow_114 ?_
  refine lv_iload_n hx hb dX8_follow_117 rfl (lv_at hl 2 rfl) ?_
  refine lv_iconst (v := 1) hx hb dX8_follow_118 (by decide) ?_
  obtain ⟨h_119, hf⟩ := oi_e hf
  refine va_zast hx hb hK hP (hD _) hS 15 2 (wM_15 _ _ _ _ _) rfl h_119 dX8_follow_119 (fun H locs hP _ hS => ?_)
  rw [nb_a (Or.inr rfl)] at hP
  have hP := wM_s15 hP
  obtain ⟨s_119, es_119, hf⟩ := os_e hf
  rw [← es_119] at hP
  refine lv_aload_n hx hb dX8_follow_120 rfl (lv_at hl 0 rfl) ?_
  refine lv_iload_n hx hb dX8_follow_121 rfl (lv_at hl 1 rfl) ?_
  refine lv_iload_n hx hb dX8_follow_122 rfl (lv_at hl 2 rfl) ?_
  obtain ⟨r_123, hg_123, hf⟩ := oc_e hf
  refine mV_wv (wd := wM ad cI cJ cZ) (σ := s_119) (As := [.int v1, .int v2]) (rest := []) ⟨hx, hb, hml, hown, hts⟩ hK hP hD hS (c_X8_beginBy l D ad cI cJ cZ s_119 v1 v2 hg_123) (cwV 2 hts gX8_follow_X8_beginBy rfl rfl rfl hd_X8_beginBy ⟨Nat.le_trans (Nat.le_of_ble_eq_true rfl) hR.1, Nat.le_trans (Nat.le_of_ble_eq_true rfl) hR.2⟩) rfl (wM_0 _ _ _ _ _) rfl hl.1 rfl (Nat.le_of_ble_eq_true rfl) dX8_follow_123 (fun H locs hP hS => ?_)
  refine lv_goto (tgt := 388) hx hb dX8_follow_126 (by decide) ?_
  exact w_X8_follow_388 hm hR hK hD r_123 hf _ _ _ hP hS (lv_sub hl [] rfl)
def p_X8_follow_105 (v1 : Int32) (v2 : Int32) (σ : SS) : Option (SS) := p_X8_follow_110 v1 v2 1 σ
set_option maxHeartbeats 4000000 in
set_option maxRecDepth 100000 in
theorem w_X8_follow_105 {p : Program} {l : Launch} {e : Env} {R : Room} {s : State} {m : MethodId} {args : Array Value} {below : List Frame} {meth : Method} {c : Code} {D : va_G} {ad : Nat → Nat} {cI cJ cZ : ClassId} {res : SS} (hm : mx p s m args meth c cX8_follow 7 none wsX8_follow RX8) (hR : 5 ≤ R.frames ∧ 127 ≤ R.locals) (hK : va_K D vwCl (tyw cI cJ cZ) s) (hD : ∀ σ, va_D (aM ad) (wM ad cI cJ cZ σ)) (v1 : Int32) (v2 : Int32) (σ : SS) (hf : p_X8_follow_105 v1 v2 σ = some res) (H : Heap) (locs : List Loc) (ls : Array Slot) (hP : va_P D vwCl (wM ad cI cJ cZ σ) H) (hS : va_S (aM ad) s.heap H locs) (hl : lv_has ls 7 [(0, .ref (ad 0)), (1, .int v1), (2, .int v2)]) : W p l e R s m args below meth c H locs 0 0 (MQ below (va_Qv (fun (u : SS) => u = res) (fun u t => va_P D vwCl (wM ad cI cJ cZ u) t.heap) (aM ad)) args s 0 0 (aM ad)) (F0 m 105 ls [.ref (ad 0)]) := by
  obtain ⟨hx, hb, hr, hml, hown, hts, hlk⟩ := id hm
  unfold p_X8_follow_105 at hf
  refine lv_iconst (v := 1) hx hb dX8_follow_105 (by decide) ?_
  refine lv_goto (tgt := 110) hx hb dX8_follow_106 (by decide) ?_
  exact w_X8_follow_110 hm hR hK hD v1 v2 1 σ hf _ _ _ hP hS (lv_sub hl [0, 1, 2] rfl)
def p_X8_follow_235 (t0 : Int32) (t1 : Int32) (σ : SS) : Option (SS) := oc (p_X8_fault_0 t1 t0 σ) (fun r_235 => p_X8_follow_388 r_235)
set_option maxHeartbeats 4000000 in
set_option maxRecDepth 100000 in
theorem w_X8_follow_235 {p : Program} {l : Launch} {e : Env} {R : Room} {s : State} {m : MethodId} {args : Array Value} {below : List Frame} {meth : Method} {c : Code} {D : va_G} {ad : Nat → Nat} {cI cJ cZ : ClassId} {res : SS} (hm : mx p s m args meth c cX8_follow 7 none wsX8_follow RX8) (hR : 5 ≤ R.frames ∧ 127 ≤ R.locals) (hK : va_K D vwCl (tyw cI cJ cZ) s) (hD : ∀ σ, va_D (aM ad) (wM ad cI cJ cZ σ)) (t0 : Int32) (t1 : Int32) (σ : SS) (hf : p_X8_follow_235 t0 t1 σ = some res) (H : Heap) (locs : List Loc) (ls : Array Slot) (hP : va_P D vwCl (wM ad cI cJ cZ σ) H) (hS : va_S (aM ad) s.heap H locs) (hl : lv_has ls 7 []) : W p l e R s m args below meth c H locs 0 0 (MQ below (va_Qv (fun (u : SS) => u = res) (fun u t => va_P D vwCl (wM ad cI cJ cZ u) t.heap) (aM ad)) args s 0 0 (aM ad)) (F0 m 235 ls [.int t0, .int t1, .ref (ad 0)]) := by
  obtain ⟨hx, hb, hr, hml, hown, hts, hlk⟩ := id hm
  unfold p_X8_follow_235 at hf
  obtain ⟨r_235, hg_235, hf⟩ := oc_e hf
  refine mV_wv (wd := wM ad cI cJ cZ) (σ := σ) (As := [.int t1, .int t0]) (rest := []) ⟨hx, hb, hml, hown, hts⟩ hK hP hD hS (c_X8_fault l D ad cI cJ cZ σ t1 t0 hg_235) (cwV 2 hts gX8_follow_X8_fault rfl rfl rfl hd_X8_fault ⟨Nat.le_trans (Nat.le_of_ble_eq_true rfl) hR.1, Nat.le_trans (Nat.le_of_ble_eq_true rfl) hR.2⟩) rfl (wM_0 _ _ _ _ _) rfl hl.1 rfl (Nat.le_of_ble_eq_true rfl) dX8_follow_235 (fun H locs hP hS => ?_)
  refine lv_goto (tgt := 388) hx hb dX8_follow_238 (by decide) ?_
  exact w_X8_follow_388 hm hR hK hD r_235 hf _ _ _ hP hS (lv_sub hl [] rfl)
def p_X8_follow_220 (v1 : Int32) (v5 : Int32) (σ : SS) : Option (SS) := if v5 = (-1) then p_X8_follow_235 (-2) v1 σ else p_X8_follow_235 (-3) v1 σ
set_option maxHeartbeats 4000000 in
set_option maxRecDepth 100000 in
theorem w_X8_follow_220 {p : Program} {l : Launch} {e : Env} {R : Room} {s : State} {m : MethodId} {args : Array Value} {below : List Frame} {meth : Method} {c : Code} {D : va_G} {ad : Nat → Nat} {cI cJ cZ : ClassId} {res : SS} (hm : mx p s m args meth c cX8_follow 7 none wsX8_follow RX8) (hR : 5 ≤ R.frames ∧ 127 ≤ R.locals) (hK : va_K D vwCl (tyw cI cJ cZ) s) (hD : ∀ σ, va_D (aM ad) (wM ad cI cJ cZ σ)) (v1 : Int32) (v5 : Int32) (σ : SS) (hf : p_X8_follow_220 v1 v5 σ = some res) (H : Heap) (locs : List Loc) (ls : Array Slot) (hP : va_P D vwCl (wM ad cI cJ cZ σ) H) (hS : va_S (aM ad) s.heap H locs) (hl : lv_has ls 7 [(0, .ref (ad 0)), (1, .int v1), (5, .int v5)]) : W p l e R s m args below meth c H locs 0 0 (MQ below (va_Qv (fun (u : SS) => u = res) (fun u t => va_P D vwCl (wM ad cI cJ cZ u) t.heap) (aM ad)) args s 0 0 (aM ad)) (F0 m 220 ls []) := by
  obtain ⟨hx, hb, hr, hml, hown, hts, hlk⟩ := id hm
  unfold p_X8_follow_220 at hf
  refine lv_aload_n hx hb dX8_follow_220 rfl (lv_at hl 0 rfl) ?_
  refine lv_iload_n hx hb dX8_follow_221 rfl (lv_at hl 1 rfl) ?_
  refine lv_iload hx hb dX8_follow_222 (lv_at hl 2 rfl) ?_
  refine lv_iconst (v := (-1)) hx hb dX8_follow_224 (by decide) ?_
  refine lv_icmp_ne (tgt := 233) hx hb dX8_follow_225 (by decide) (fun c_225 => ?_) (fun c_225 => ?_)
  · rw [if_neg c_225] at hf
    refine lv_bipush (v := (-3)) hx hb dX8_follow_233 (by decide) ?_
    exact w_X8_follow_235 hm hR hK hD (-3) v1 σ hf _ _ _ hP hS (lv_sub hl [] rfl)
  · rw [if_pos c_225] at hf
    refine lv_bipush (v := (-2)) hx hb dX8_follow_228 (by decide) ?_
    refine lv_goto (tgt := 235) hx hb dX8_follow_230 (by decide) ?_
    exact w_X8_follow_235 hm hR hK hD (-2) v1 σ hf _ _ _ hP hS (lv_sub hl [] rfl)
def p_X8_follow_278 (v2 : Int32) (v3 : Int32) (t0 : Int32) (σ : SS) : Option (SS) := ob t0 (os (sI σ 0 17 t0) (fun s_278 => oi ((48 * v2) + v3) 192 (os (sI s_278 17 (((48 * v2) + v3).toNatClampNeg) 1) (fun s_292 => p_X8_follow_388 s_292))))
set_option maxHeartbeats 4000000 in
set_option maxRecDepth 100000 in
theorem w_X8_follow_278 {p : Program} {l : Launch} {e : Env} {R : Room} {s : State} {m : MethodId} {args : Array Value} {below : List Frame} {meth : Method} {c : Code} {D : va_G} {ad : Nat → Nat} {cI cJ cZ : ClassId} {res : SS} (hm : mx p s m args meth c cX8_follow 7 none wsX8_follow RX8) (hR : 5 ≤ R.frames ∧ 127 ≤ R.locals) (hK : va_K D vwCl (tyw cI cJ cZ) s) (hD : ∀ σ, va_D (aM ad) (wM ad cI cJ cZ σ)) (v2 : Int32) (v3 : Int32) (t0 : Int32) (σ : SS) (hf : p_X8_follow_278 v2 v3 t0 σ = some res) (H : Heap) (locs : List Loc) (ls : Array Slot) (hP : va_P D vwCl (wM ad cI cJ cZ σ) H) (hS : va_S (aM ad) s.heap H locs) (hl : lv_has ls 7 [(0, .ref (ad 0)), (2, .int v2), (3, .int v3)]) : W p l e R s m args below meth c H locs 0 0 (MQ below (va_Qv (fun (u : SS) => u = res) (fun u t => va_P D vwCl (wM ad cI cJ cZ u) t.heap) (aM ad)) args s 0 0 (aM ad)) (F0 m 278 ls [.int t0, .ref (ad 0)]) := by
  obtain ⟨hx, hb, hr, hml, hown, hts, hlk⟩ := id hm
  unfold p_X8_follow_278 at hf
  obtain ⟨h_278, hf⟩ := ob_e hf
  refine va_put (D := D) (ci := 7) (v := .int t0) (ty := .boolean) (C := RX8) (T := TX8) (N := 50) hx hb hts in_X8_follow_X8 tyX8 tyX8_ok nmX8 hown hK hP (hD _) hS 0 (wM_0 _ _ _ _ _) rfl 17 (by decide) (hts (.fieldLink RX8 186 "CallGraphsModel" "grew" "Z") (List.mem_of_getElem? (i := 5) rfl)) (fun _ h9 => h9) rfl (tyX8_ok 17 (by decide)) (nb_n h_278) (nb_f h_278) (Nat.le_of_ble_eq_true rfl) dX8_follow_278 (fun H locs hP _ hS => ?_)
  have hP := wM_p0_17 hP
  obtain ⟨s_278, es_278, hf⟩ := os_e hf
  rw [← es_278] at hP
  refine lv_aload_n hx hb dX8_follow_281 rfl (lv_at hl 0 rfl) ?_
  refine va_get (D := D) (ci := 7) (v := .ref (ad 17)) (C := RX8) (T := TX8) (N := 50) hx hb hts in_X8_follow_X8 hown hK hP 0 (wM_0 _ _ _ _ _) rfl 21 (by decide) (hts (.fieldLink RX8 59 "CallGraphsModel" "inBag" "[Z") (List.mem_of_getElem? (i := 9) rfl)) (fun _ h9 => h9) (fM_0_21 _ _) dX8_follow_282 ?_
  refine lv_bipush (v := 48) hx hb dX8_follow_285 (by decide) ?_
  refine lv_iload_n hx hb dX8_follow_287 rfl (lv_at hl 1 rfl) ?_
  refine lv_imul hx hb dX8_follow_288 ?_
  refine lv_iload_n hx hb dX8_follow_289 rfl (lv_at hl 2 rfl) ?_
  refine lv_iadd hx hb dX8_follow_290 ?_
  refine lv_iconst (v := 1) hx hb dX8_follow_291 (by decide) ?_
  obtain ⟨h_292, hf⟩ := oi_e hf
  refine va_zast hx hb hK hP (hD _) hS 17 2 (wM_17 _ _ _ _ _) rfl h_292 dX8_follow_292 (fun H locs hP _ hS => ?_)
  rw [nb_a (Or.inr rfl)] at hP
  have hP := wM_s17 hP
  obtain ⟨s_292, es_292, hf⟩ := os_e hf
  rw [← es_292] at hP
  refine lv_goto (tgt := 388) hx hb dX8_follow_293 (by decide) ?_
  exact w_X8_follow_388 hm hR hK hD s_292 hf _ _ _ hP hS (lv_sub hl [] rfl)
def p_X8_follow_273 (v2 : Int32) (v3 : Int32) (σ : SS) : Option (SS) := p_X8_follow_278 v2 v3 1 σ
set_option maxHeartbeats 4000000 in
set_option maxRecDepth 100000 in
theorem w_X8_follow_273 {p : Program} {l : Launch} {e : Env} {R : Room} {s : State} {m : MethodId} {args : Array Value} {below : List Frame} {meth : Method} {c : Code} {D : va_G} {ad : Nat → Nat} {cI cJ cZ : ClassId} {res : SS} (hm : mx p s m args meth c cX8_follow 7 none wsX8_follow RX8) (hR : 5 ≤ R.frames ∧ 127 ≤ R.locals) (hK : va_K D vwCl (tyw cI cJ cZ) s) (hD : ∀ σ, va_D (aM ad) (wM ad cI cJ cZ σ)) (v2 : Int32) (v3 : Int32) (σ : SS) (hf : p_X8_follow_273 v2 v3 σ = some res) (H : Heap) (locs : List Loc) (ls : Array Slot) (hP : va_P D vwCl (wM ad cI cJ cZ σ) H) (hS : va_S (aM ad) s.heap H locs) (hl : lv_has ls 7 [(0, .ref (ad 0)), (2, .int v2), (3, .int v3)]) : W p l e R s m args below meth c H locs 0 0 (MQ below (va_Qv (fun (u : SS) => u = res) (fun u t => va_P D vwCl (wM ad cI cJ cZ u) t.heap) (aM ad)) args s 0 0 (aM ad)) (F0 m 273 ls [.ref (ad 0)]) := by
  obtain ⟨hx, hb, hr, hml, hown, hts, hlk⟩ := id hm
  unfold p_X8_follow_273 at hf
  refine lv_iconst (v := 1) hx hb dX8_follow_273 (by decide) ?_
  refine lv_goto (tgt := 278) hx hb dX8_follow_274 (by decide) ?_
  exact w_X8_follow_278 hm hR hK hD v2 v3 1 σ hf _ _ _ hP hS (lv_sub hl [0, 1, 2] rfl)
def p_X8_follow_330 (k299 : Int32 → Int32 → Int32 → SS → Option (SS)) (v1 : Int32) (v2 : Int32) (v6 : Int32) (σ : SS) : Option (SS) := k299 v1 v2 (v6 + 1) σ
set_option maxHeartbeats 4000000 in
set_option maxRecDepth 100000 in
theorem w_X8_follow_330 {p : Program} {l : Launch} {e : Env} {R : Room} {s : State} {m : MethodId} {args : Array Value} {below : List Frame} {meth : Method} {c : Code} {D : va_G} {ad : Nat → Nat} {cI cJ cZ : ClassId} {res : SS} (hm : mx p s m args meth c cX8_follow 7 none wsX8_follow RX8) (hR : 5 ≤ R.frames ∧ 127 ≤ R.locals) (hK : va_K D vwCl (tyw cI cJ cZ) s) (hD : ∀ σ, va_D (aM ad) (wM ad cI cJ cZ σ)) (k299 : Int32 → Int32 → Int32 → SS → Option (SS)) (hk299 : ∀ (v1 : Int32) (v2 : Int32) (v6 : Int32) (σ : SS), k299 v1 v2 v6 σ = some res → ∀ (H : Heap) (locs : List Loc) (ls : Array Slot), va_P D vwCl (wM ad cI cJ cZ σ) H → va_S (aM ad) s.heap H locs → lv_has ls 7 [(0, .ref (ad 0)), (1, .int v1), (2, .int v2), (6, .int v6)] → W p l e R s m args below meth c H locs 0 0 (MQ below (va_Qv (fun (u : SS) => u = res) (fun u t => va_P D vwCl (wM ad cI cJ cZ u) t.heap) (aM ad)) args s 0 0 (aM ad)) (F0 m 299 ls [])) (v1 : Int32) (v2 : Int32) (v6 : Int32) (σ : SS) (hf : p_X8_follow_330 k299 v1 v2 v6 σ = some res) (H : Heap) (locs : List Loc) (ls : Array Slot) (hP : va_P D vwCl (wM ad cI cJ cZ σ) H) (hS : va_S (aM ad) s.heap H locs) (hl : lv_has ls 7 [(0, .ref (ad 0)), (1, .int v1), (2, .int v2), (6, .int v6)]) : W p l e R s m args below meth c H locs 0 0 (MQ below (va_Qv (fun (u : SS) => u = res) (fun u t => va_P D vwCl (wM ad cI cJ cZ u) t.heap) (aM ad)) args s 0 0 (aM ad)) (F0 m 330 ls []) := by
  obtain ⟨hx, hb, hr, hml, hown, hts, hlk⟩ := id hm
  unfold p_X8_follow_330 at hf
  refine lv_iinc (v := (v6 + 1)) (lv' := [(6, .int (v6 + 1)), (0, .ref (ad 0)), (1, .int v1), (2, .int v2)]) hx hb dX8_follow_330 hl (k := 3) rfl rfl (by decide) rfl (fun ls hl => ?_)
  refine lv_goto (tgt := 299) hx hb dX8_follow_333 (by decide) ?_
  exact hk299 v1 v2 (v6 + 1) σ hf _ _ _ hP hS (lv_sub hl [1, 2, 3, 0] rfl)
def p_X8_follow_299 : Nat → Int32 → Int32 → Int32 → SS → Option (SS)
  | 0, _, _, _, _ => none
  | n + 1, v1, v2, v6, σ => let k299 := p_X8_follow_299 n; if (σ.1 0 5) ≤ v6 then p_X8_follow_388 σ else oi ((48 * v2) + v6) 192 (if (σ.1 17 ((48 * v2) + v6).toNatClampNeg) = 0 then p_X8_follow_330 k299 v1 v2 v6 σ else oc (p_X8_call_0 v1 v6 σ) (fun r_327 => p_X8_follow_330 k299 v1 v2 v6 r_327))
set_option maxHeartbeats 4000000 in
set_option maxRecDepth 100000 in
theorem w_X8_follow_299 {p : Program} {l : Launch} {e : Env} {R : Room} {s : State} {m : MethodId} {args : Array Value} {below : List Frame} {meth : Method} {c : Code} {D : va_G} {ad : Nat → Nat} {cI cJ cZ : ClassId} {res : SS} (hm : mx p s m args meth c cX8_follow 7 none wsX8_follow RX8) (hR : 5 ≤ R.frames ∧ 127 ≤ R.locals) (hK : va_K D vwCl (tyw cI cJ cZ) s) (hD : ∀ σ, va_D (aM ad) (wM ad cI cJ cZ σ)) : ∀ (n : Nat) (v1 : Int32) (v2 : Int32) (v6 : Int32) (σ : SS), p_X8_follow_299 n v1 v2 v6 σ = some res → ∀ (H : Heap) (locs : List Loc) (ls : Array Slot), va_P D vwCl (wM ad cI cJ cZ σ) H → va_S (aM ad) s.heap H locs → lv_has ls 7 [(0, .ref (ad 0)), (1, .int v1), (2, .int v2), (6, .int v6)] → W p l e R s m args below meth c H locs 0 0 (MQ below (va_Qv (fun (u : SS) => u = res) (fun u t => va_P D vwCl (wM ad cI cJ cZ u) t.heap) (aM ad)) args s 0 0 (aM ad)) (F0 m 299 ls []) := by
  obtain ⟨hx, hb, hr, hml, hown, hts, hlk⟩ := id hm
  intro n
  induction n with
  | zero =>
    intro _ _ _ _ hf
    cases hf
  | succ n hk299 =>
    intro v1 v2 v6 σ hf H locs ls hP hS hl
    rw [p_X8_follow_299] at hf
    try dsimp only at hf
    refine lv_iload hx hb dX8_follow_299 (lv_at hl 3 rfl) ?_
    refine lv_aload_n hx hb dX8_follow_301 rfl (lv_at hl 0 rfl) ?_
    refine va_get (D := D) (ci := 7) (v := .int (σ.1 0 5)) (C := RX8) (T := TX8) (N := 50) hx hb hts in_X8_follow_X8 hown hK hP 0 (wM_0 _ _ _ _ _) rfl 5 (by decide) (hts (.fieldLink RX8 131 "CallGraphsModel" "members" "I") (List.mem_of_getElem? (i := 10) rfl)) (fun _ h9 => h9) (fM_0_5 _ _) dX8_follow_302 ?_
    refine lv_icmp_ge (tgt := 336) hx hb dX8_follow_305 (by decide) (fun c_305 => ?_) (fun c_305 => ?_)
    · rw [if_pos c_305] at hf
      refine lv_goto (tgt := 388) hx hb dX8_follow_336 (by decide) ?_
      exact w_X8_follow_388 hm hR hK hD σ hf _ _ _ hP hS (lv_sub hl [] rfl)
    · rw [if_neg c_305] at hf
      refine lv_aload_n hx hb dX8_follow_308 rfl (lv_at hl 0 rfl) ?_
      refine va_get (D := D) (ci := 7) (v := .ref (ad 17)) (C := RX8) (T := TX8) (N := 50) hx hb hts in_X8_follow_X8 hown hK hP 0 (wM_0 _ _ _ _ _) rfl 21 (by decide) (hts (.fieldLink RX8 59 "CallGraphsModel" "inBag" "[Z") (List.mem_of_getElem? (i := 9) rfl)) (fun _ h9 => h9) (fM_0_21 _ _) dX8_follow_309 ?_
      refine lv_bipush (v := 48) hx hb dX8_follow_312 (by decide) ?_
      refine lv_iload_n hx hb dX8_follow_314 rfl (lv_at hl 2 rfl) ?_
      refine lv_imul hx hb dX8_follow_315 ?_
      refine lv_iload hx hb dX8_follow_316 (lv_at hl 3 rfl) ?_
      refine lv_iadd hx hb dX8_follow_318 ?_
      obtain ⟨h_319, hf⟩ := oi_e hf
      refine va_zald hx hb hK hP 17 2 (wM_17 _ _ _ _ _) rfl h_319 dX8_follow_319 ?_
      refine lv_if_eq (tgt := 330) hx hb dX8_follow_320 (by decide) (fun c_320 => ?_) (fun c_320 => ?_)
      · rw [if_pos c_320] at hf
        exact w_X8_follow_330 hm hR hK hD (p_X8_follow_299 n) hk299 v1 v2 v6 σ hf _ _ _ hP hS (lv_sub hl [0, 1, 2, 3] rfl)
      · rw [if_neg c_320] at hf
        refine lv_aload_n hx hb dX8_follow_323 rfl (lv_at hl 0 rfl) ?_
        refine lv_iload_n hx hb dX8_follow_324 rfl (lv_at hl 1 rfl) ?_
        refine lv_iload hx hb dX8_follow_325 (lv_at hl 3 rfl) ?_
        obtain ⟨r_327, hg_327, hf⟩ := oc_e hf
        refine mV_wv (wd := wM ad cI cJ cZ) (σ := σ) (As := [.int v1, .int v6]) (rest := []) ⟨hx, hb, hml, hown, hts⟩ hK hP hD hS (c_X8_call l D ad cI cJ cZ σ v1 v6 hg_327) (cwV 2 hts gX8_follow_X8_call rfl rfl rfl hd_X8_call ⟨Nat.le_trans (Nat.le_of_ble_eq_true rfl) hR.1, Nat.le_trans (Nat.le_of_ble_eq_true rfl) hR.2⟩) rfl (wM_0 _ _ _ _ _) rfl hl.1 rfl (Nat.le_of_ble_eq_true rfl) dX8_follow_327 (fun H locs hP hS => ?_)
        exact w_X8_follow_330 hm hR hK hD (p_X8_follow_299 n) hk299 v1 v2 v6 r_327 hf _ _ _ hP hS (lv_sub hl [0, 1, 2, 3] rfl)
def p_X8_follow_382 (k342 : Int32 → Int32 → Int32 → SS → Option (SS)) (v1 : Int32) (v3 : Int32) (v6 : Int32) (σ : SS) : Option (SS) := k342 v1 v3 (v6 + 1) σ
set_option maxHeartbeats 4000000 in
set_option maxRecDepth 100000 in
theorem w_X8_follow_382 {p : Program} {l : Launch} {e : Env} {R : Room} {s : State} {m : MethodId} {args : Array Value} {below : List Frame} {meth : Method} {c : Code} {D : va_G} {ad : Nat → Nat} {cI cJ cZ : ClassId} {res : SS} (hm : mx p s m args meth c cX8_follow 7 none wsX8_follow RX8) (hR : 5 ≤ R.frames ∧ 127 ≤ R.locals) (hK : va_K D vwCl (tyw cI cJ cZ) s) (hD : ∀ σ, va_D (aM ad) (wM ad cI cJ cZ σ)) (k342 : Int32 → Int32 → Int32 → SS → Option (SS)) (hk342 : ∀ (v1 : Int32) (v3 : Int32) (v6 : Int32) (σ : SS), k342 v1 v3 v6 σ = some res → ∀ (H : Heap) (locs : List Loc) (ls : Array Slot), va_P D vwCl (wM ad cI cJ cZ σ) H → va_S (aM ad) s.heap H locs → lv_has ls 7 [(0, .ref (ad 0)), (1, .int v1), (3, .int v3), (6, .int v6)] → W p l e R s m args below meth c H locs 0 0 (MQ below (va_Qv (fun (u : SS) => u = res) (fun u t => va_P D vwCl (wM ad cI cJ cZ u) t.heap) (aM ad)) args s 0 0 (aM ad)) (F0 m 342 ls [])) (v1 : Int32) (v3 : Int32) (v6 : Int32) (σ : SS) (hf : p_X8_follow_382 k342 v1 v3 v6 σ = some res) (H : Heap) (locs : List Loc) (ls : Array Slot) (hP : va_P D vwCl (wM ad cI cJ cZ σ) H) (hS : va_S (aM ad) s.heap H locs) (hl : lv_has ls 7 [(0, .ref (ad 0)), (1, .int v1), (3, .int v3), (6, .int v6)]) : W p l e R s m args below meth c H locs 0 0 (MQ below (va_Qv (fun (u : SS) => u = res) (fun u t => va_P D vwCl (wM ad cI cJ cZ u) t.heap) (aM ad)) args s 0 0 (aM ad)) (F0 m 382 ls []) := by
  obtain ⟨hx, hb, hr, hml, hown, hts, hlk⟩ := id hm
  unfold p_X8_follow_382 at hf
  refine lv_iinc (v := (v6 + 1)) (lv' := [(6, .int (v6 + 1)), (0, .ref (ad 0)), (1, .int v1), (3, .int v3)]) hx hb dX8_follow_382 hl (k := 3) rfl rfl (by decide) rfl (fun ls hl => ?_)
  refine lv_goto (tgt := 342) hx hb dX8_follow_385 (by decide) ?_
  exact hk342 v1 v3 (v6 + 1) σ hf _ _ _ hP hS (lv_sub hl [1, 2, 3, 0] rfl)
def p_X8_follow_342 : Nat → Int32 → Int32 → Int32 → SS → Option (SS)
  | 0, _, _, _, _ => none
  | n + 1, v1, v3, v6, σ => let k342 := p_X8_follow_342 n; if (σ.1 0 5) ≤ v6 then p_X8_follow_388 σ else oi v6 48 (if (σ.1 6 v6.toNatClampNeg) = v3 then oi v6 48 (oc (p_X8_canBeCalled_0 (σ.1 7 v6.toNatClampNeg)) (fun r_369 => if r_369 = 0 then p_X8_follow_382 k342 v1 v3 v6 σ else oc (p_X8_call_0 v1 v6 σ) (fun r_379 => p_X8_follow_382 k342 v1 v3 v6 r_379))) else p_X8_follow_382 k342 v1 v3 v6 σ)
set_option maxHeartbeats 4000000 in
set_option maxRecDepth 100000 in
theorem w_X8_follow_342 {p : Program} {l : Launch} {e : Env} {R : Room} {s : State} {m : MethodId} {args : Array Value} {below : List Frame} {meth : Method} {c : Code} {D : va_G} {ad : Nat → Nat} {cI cJ cZ : ClassId} {res : SS} (hm : mx p s m args meth c cX8_follow 7 none wsX8_follow RX8) (hR : 5 ≤ R.frames ∧ 127 ≤ R.locals) (hK : va_K D vwCl (tyw cI cJ cZ) s) (hD : ∀ σ, va_D (aM ad) (wM ad cI cJ cZ σ)) : ∀ (n : Nat) (v1 : Int32) (v3 : Int32) (v6 : Int32) (σ : SS), p_X8_follow_342 n v1 v3 v6 σ = some res → ∀ (H : Heap) (locs : List Loc) (ls : Array Slot), va_P D vwCl (wM ad cI cJ cZ σ) H → va_S (aM ad) s.heap H locs → lv_has ls 7 [(0, .ref (ad 0)), (1, .int v1), (3, .int v3), (6, .int v6)] → W p l e R s m args below meth c H locs 0 0 (MQ below (va_Qv (fun (u : SS) => u = res) (fun u t => va_P D vwCl (wM ad cI cJ cZ u) t.heap) (aM ad)) args s 0 0 (aM ad)) (F0 m 342 ls []) := by
  obtain ⟨hx, hb, hr, hml, hown, hts, hlk⟩ := id hm
  intro n
  induction n with
  | zero =>
    intro _ _ _ _ hf
    cases hf
  | succ n hk342 =>
    intro v1 v3 v6 σ hf H locs ls hP hS hl
    rw [p_X8_follow_342] at hf
    try dsimp only at hf
    refine lv_iload hx hb dX8_follow_342 (lv_at hl 3 rfl) ?_
    refine lv_aload_n hx hb dX8_follow_344 rfl (lv_at hl 0 rfl) ?_
    refine va_get (D := D) (ci := 7) (v := .int (σ.1 0 5)) (C := RX8) (T := TX8) (N := 50) hx hb hts in_X8_follow_X8 hown hK hP 0 (wM_0 _ _ _ _ _) rfl 5 (by decide) (hts (.fieldLink RX8 131 "CallGraphsModel" "members" "I") (List.mem_of_getElem? (i := 10) rfl)) (fun _ h9 => h9) (fM_0_5 _ _) dX8_follow_345 ?_
    refine lv_icmp_ge (tgt := 388) hx hb dX8_follow_348 (by decide) (fun c_348 => ?_) (fun c_348 => ?_)
    · rw [if_pos c_348] at hf
      exact w_X8_follow_388 hm hR hK hD σ hf _ _ _ hP hS (lv_sub hl [] rfl)
    · rw [if_neg c_348] at hf
      refine lv_aload_n hx hb dX8_follow_351 rfl (lv_at hl 0 rfl) ?_
      refine va_get (D := D) (ci := 7) (v := .ref (ad 6)) (C := RX8) (T := TX8) (N := 50) hx hb hts in_X8_follow_X8 hown hK hP 0 (wM_0 _ _ _ _ _) rfl 7 (by decide) (hts (.fieldLink RX8 25 "CallGraphsModel" "nameOf" "[I") (List.mem_of_getElem? (i := 11) rfl)) (fun _ h9 => h9) (fM_0_7 _ _) dX8_follow_352 ?_
      refine lv_iload hx hb dX8_follow_355 (lv_at hl 3 rfl) ?_
      obtain ⟨h_357, hf⟩ := oi_e hf
      refine va_iald hx hb hK hP 6 0 (wM_6 _ _ _ _ _) rfl h_357 dX8_follow_357 ?_
      refine lv_iload_n hx hb dX8_follow_358 rfl (lv_at hl 2 rfl) ?_
      refine lv_icmp_ne (tgt := 382) hx hb dX8_follow_359 (by decide) (fun c_359 => ?_) (fun c_359 => ?_)
      · rw [if_neg c_359] at hf
        exact w_X8_follow_382 hm hR hK hD (p_X8_follow_342 n) hk342 v1 v3 v6 σ hf _ _ _ hP hS (lv_sub hl [0, 1, 2, 3] rfl)
      · rw [if_pos c_359] at hf
        refine lv_aload_n hx hb dX8_follow_362 rfl (lv_at hl 0 rfl) ?_
        refine va_get (D := D) (ci := 7) (v := .ref (ad 7)) (C := RX8) (T := TX8) (N := 50) hx hb hts in_X8_follow_X8 hown hK hP 0 (wM_0 _ _ _ _ _) rfl 8 (by decide) (hts (.fieldLink RX8 28 "CallGraphsModel" "sortOf" "[I") (List.mem_of_getElem? (i := 7) rfl)) (fun _ h9 => h9) (fM_0_8 _ _) dX8_follow_363 ?_
        refine lv_iload hx hb dX8_follow_366 (lv_at hl 3 rfl) ?_
        obtain ⟨h_368, hf⟩ := oi_e hf
        refine va_iald hx hb hK hP 7 0 (wM_7 _ _ _ _ _) rfl h_368 dX8_follow_368 ?_
        obtain ⟨r_369, hg_369, hf⟩ := oc_e hf
        refine mS_i (D := D) (As := [.int (σ.1 7 v6.toNatClampNeg)]) (rest := []) ⟨hx, hb, hml, hown, hts⟩ hP hS (c_X8_canBeCalled l (σ.1 7 v6.toNatClampNeg) hg_369) (va_cwS 1 hts gX8_follow_X8_canBeCalled rfl rfl rfl hd_X8_canBeCalled ⟨Nat.le_trans (Nat.le_of_ble_eq_true rfl) hR.1, Nat.le_trans (Nat.le_of_ble_eq_true rfl) hR.2⟩) rfl hl.1 rfl (Nat.le_of_ble_eq_true rfl) dX8_follow_369 (fun H locs hP hS => ?_)
        refine lv_if_eq (tgt := 382) hx hb dX8_follow_372 (by decide) (fun c_372 => ?_) (fun c_372 => ?_)
        · rw [if_pos c_372] at hf
          exact w_X8_follow_382 hm hR hK hD (p_X8_follow_342 n) hk342 v1 v3 v6 σ hf _ _ _ hP hS (lv_sub hl [0, 1, 2, 3] rfl)
        · rw [if_neg c_372] at hf
          refine lv_aload_n hx hb dX8_follow_375 rfl (lv_at hl 0 rfl) ?_
          refine lv_iload_n hx hb dX8_follow_376 rfl (lv_at hl 1 rfl) ?_
          refine lv_iload hx hb dX8_follow_377 (lv_at hl 3 rfl) ?_
          obtain ⟨r_379, hg_379, hf⟩ := oc_e hf
          refine mV_wv (wd := wM ad cI cJ cZ) (σ := σ) (As := [.int v1, .int v6]) (rest := []) ⟨hx, hb, hml, hown, hts⟩ hK hP hD hS (c_X8_call l D ad cI cJ cZ σ v1 v6 hg_379) (cwV 2 hts gX8_follow_X8_call rfl rfl rfl hd_X8_call ⟨Nat.le_trans (Nat.le_of_ble_eq_true rfl) hR.1, Nat.le_trans (Nat.le_of_ble_eq_true rfl) hR.2⟩) rfl (wM_0 _ _ _ _ _) rfl hl.1 rfl (Nat.le_of_ble_eq_true rfl) dX8_follow_379 (fun H locs hP hS => ?_)
          exact w_X8_follow_382 hm hR hK hD (p_X8_follow_342 n) hk342 v1 v3 v6 r_379 hf _ _ _ hP hS (lv_sub hl [0, 1, 2, 3] rfl)
def p_X8_follow_17 : Nat → Int32 → Int32 → Int32 → Int32 → SS → Option (SS)
  | 0, _, _, _, _, _ => none
  | n + 1, v1, v2, v3, v4, σ => let k17 := p_X8_follow_17 n; if 4 ≤ v4 then oi v1 160 ((if (σ.1 11 v1.toNatClampNeg) = 0 then if (σ.1 0 17) = 0 then oi v2 16 (if (σ.1 15 v2.toNatClampNeg) = 0 then p_X8_follow_105 v1 v2 σ else p_X8_follow_110 v1 v2 0 σ) else p_X8_follow_105 v1 v2 σ else if (σ.1 11 v1.toNatClampNeg) = 1 then oc (p_X8_callAll_0 v1 v2 v3 σ) (fun r_133 => p_X8_follow_388 r_133) else if (σ.1 11 v1.toNatClampNeg) = 2 then oc (p_X8_chosenOf_0 v2 v2 v3 σ) (fun r_143 => if r_143.1 < 0 then oc (p_X8_fault_0 v1 r_143.1 r_143.2) (fun r_167 => p_X8_follow_388 r_167) else oc (p_X8_call_0 v1 r_143.1 r_143.2) (fun r_157 => p_X8_follow_388 r_157)) else if (σ.1 11 v1.toNatClampNeg) = 3 then oc (p_X8_find_0 v2 v3 σ) (fun r_176 => if r_176.1 = (-1) then p_X8_follow_220 v1 r_176.1 r_176.2 else oi r_176.1 48 (if (r_176.2.1 7 r_176.1.toNatClampNeg) = 2 then oc (p_X8_call_0 v1 r_176.1 r_176.2) (fun r_202 => oi r_176.1 48 (oc (p_X8_beginBy_0 v1 (r_202.1 5 r_176.1.toNatClampNeg) r_202) (fun r_214 => p_X8_follow_388 r_214))) else p_X8_follow_220 v1 r_176.1 r_176.2)) else if (σ.1 11 v1.toNatClampNeg) = 4 then oc (p_X8_callAll_0 v1 v2 v3 σ) (fun r_245 => p_X8_follow_388 r_245) else if (σ.1 11 v1.toNatClampNeg) = 5 then if (σ.1 0 17) = 0 then oi ((48 * v2) + v3) 192 (if (σ.1 17 ((48 * v2) + v3).toNatClampNeg) = 0 then p_X8_follow_273 v2 v3 σ else p_X8_follow_278 v2 v3 0 σ) else p_X8_follow_273 v2 v3 σ else if (σ.1 11 v1.toNatClampNeg) = 6 then p_X8_follow_299 100000 v1 v2 0 σ else p_X8_follow_342 100000 v1 v3 0 σ)) else oi ((4 * v1) + v4) 640 (os (sI σ 19 (((4 * v1) + v4).toNatClampNeg) 0) (fun s_34 => k17 v1 v2 v3 (v4 + 1) s_34))
set_option maxHeartbeats 4000000 in
set_option maxRecDepth 100000 in
theorem w_X8_follow_17 {p : Program} {l : Launch} {e : Env} {R : Room} {s : State} {m : MethodId} {args : Array Value} {below : List Frame} {meth : Method} {c : Code} {D : va_G} {ad : Nat → Nat} {cI cJ cZ : ClassId} {res : SS} (hm : mx p s m args meth c cX8_follow 7 none wsX8_follow RX8) (hR : 5 ≤ R.frames ∧ 127 ≤ R.locals) (hK : va_K D vwCl (tyw cI cJ cZ) s) (hD : ∀ σ, va_D (aM ad) (wM ad cI cJ cZ σ)) : ∀ (n : Nat) (v1 : Int32) (v2 : Int32) (v3 : Int32) (v4 : Int32) (σ : SS), p_X8_follow_17 n v1 v2 v3 v4 σ = some res → ∀ (H : Heap) (locs : List Loc) (ls : Array Slot), va_P D vwCl (wM ad cI cJ cZ σ) H → va_S (aM ad) s.heap H locs → lv_has ls 7 [(0, .ref (ad 0)), (1, .int v1), (2, .int v2), (3, .int v3), (4, .int v4)] → W p l e R s m args below meth c H locs 0 0 (MQ below (va_Qv (fun (u : SS) => u = res) (fun u t => va_P D vwCl (wM ad cI cJ cZ u) t.heap) (aM ad)) args s 0 0 (aM ad)) (F0 m 17 ls []) := by
  obtain ⟨hx, hb, hr, hml, hown, hts, hlk⟩ := id hm
  intro n
  induction n with
  | zero =>
    intro _ _ _ _ _ hf
    cases hf
  | succ n hk17 =>
    intro v1 v2 v3 v4 σ hf H locs ls hP hS hl
    rw [p_X8_follow_17] at hf
    try dsimp only at hf
    refine lv_iload hx hb dX8_follow_17 (lv_at hl 4 rfl) ?_
    refine lv_iconst (v := 4) hx hb dX8_follow_19 (by decide) ?_
    refine lv_icmp_ge (tgt := 41) hx hb dX8_follow_20 (by decide) (fun c_20 => ?_) (fun c_20 => ?_)
    · rw [if_pos c_20] at hf
      refine lv_aload_n hx hb dX8_follow_41 rfl (lv_at hl 0 rfl) ?_
      refine va_get (D := D) (ci := 7) (v := .ref (ad 11)) (C := RX8) (T := TX8) (N := 50) hx hb hts in_X8_follow_X8 hown hK hP 0 (wM_0 _ _ _ _ _) rfl 13 (by decide) (hts (.fieldLink RX8 41 "CallGraphsModel" "opKind" "[I") (List.mem_of_getElem? (i := 4) rfl)) (fun _ h9 => h9) (fM_0_13 _ _) dX8_follow_42 ?_
      refine lv_iload_n hx hb dX8_follow_45 rfl (lv_at hl 1 rfl) ?_
      obtain ⟨h_46, hf⟩ := oi_e hf
      refine va_iald hx hb hK hP 11 0 (wM_11 _ _ _ _ _) rfl h_46 dX8_follow_46 ?_
      by_cases c_47_0 : (σ.1 11 v1.toNatClampNeg) = 0
      · rw [if_pos c_47_0] at hf
        refine lv_tableIn (off := 41) (tgt := 88) hx hb dX8_follow_47 (by rw [c_47_0]; decide) (by rw [c_47_0]; decide) (by rw [c_47_0]; rfl) (by decide) ?_
        refine lv_aload_n hx hb dX8_follow_88 rfl (lv_at hl 0 rfl) ?_
        refine lv_aload_n hx hb dX8_follow_89 rfl (lv_at hl 0 rfl) ?_
        refine va_get (D := D) (ci := 7) (v := .int (σ.1 0 17)) (C := RX8) (T := TX8) (N := 50) hx hb hts in_X8_follow_X8 hown hK hP 0 (wM_0 _ _ _ _ _) rfl 17 (by decide) (hts (.fieldLink RX8 186 "CallGraphsModel" "grew" "Z") (List.mem_of_getElem? (i := 5) rfl)) (fun _ h9 => h9) (fM_0_17 _ _) dX8_follow_90 ?_
        refine lv_if_ne (tgt := 105) hx hb dX8_follow_93 (by decide) (fun c_93 => ?_) (fun c_93 => ?_)
        · rw [if_neg c_93] at hf
          exact w_X8_follow_105 hm hR hK hD v1 v2 σ hf _ _ _ hP hS (lv_sub hl [0, 1, 2] rfl)
        · rw [if_pos c_93] at hf
          refine lv_aload_n hx hb dX8_follow_96 rfl (lv_at hl 0 rfl) ?_
          refine va_get (D := D) (ci := 7) (v := .ref (ad 15)) (C := RX8) (T := TX8) (N := 50) hx hb hts in_X8_follow_X8 hown hK hP 0 (wM_0 _ _ _ _ _) rfl 19 (by decide) (hts (.fieldLink RX8 53 "CallGraphsModel" "madeAt" "[Z") (List.mem_of_getElem? (i := 6) rfl)) (fun _ h9 => h9) (fM_0_19 _ _) dX8_follow_97 ?_
          refine lv_iload_n hx hb dX8_follow_100 rfl (lv_at hl 2 rfl) ?_
          obtain ⟨h_101, hf⟩ := oi_e hf
          refine va_zald hx hb hK hP 15 2 (wM_15 _ _ _ _ _) rfl h_101 dX8_follow_101 ?_
          refine lv_if_ne (tgt := 109) hx hb dX8_follow_102 (by decide) (fun c_102 => ?_) (fun c_102 => ?_)
          · rw [if_neg c_102] at hf
            refine lv_iconst (v := 0) hx hb dX8_follow_109 (by decide) ?_
            exact w_X8_follow_110 hm hR hK hD v1 v2 0 σ hf _ _ _ hP hS (lv_sub hl [0, 1, 2] rfl)
          · rw [if_pos c_102] at hf
            exact w_X8_follow_105 hm hR hK hD v1 v2 σ hf _ _ _ hP hS (lv_sub hl [0, 1, 2] rfl)
      rw [if_neg c_47_0] at hf
      by_cases c_47_1 : (σ.1 11 v1.toNatClampNeg) = 1
      · rw [if_pos c_47_1] at hf
        refine lv_tableIn (off := 82) (tgt := 129) hx hb dX8_follow_47 (by rw [c_47_1]; decide) (by rw [c_47_1]; decide) (by rw [c_47_1]; rfl) (by decide) ?_
        refine lv_aload_n hx hb dX8_follow_129 rfl (lv_at hl 0 rfl) ?_
        refine lv_iload_n hx hb dX8_follow_130 rfl (lv_at hl 1 rfl) ?_
        refine lv_iload_n hx hb dX8_follow_131 rfl (lv_at hl 2 rfl) ?_
        refine lv_iload_n hx hb dX8_follow_132 rfl (lv_at hl 3 rfl) ?_
        obtain ⟨r_133, hg_133, hf⟩ := oc_e hf
        refine mV_wv (wd := wM ad cI cJ cZ) (σ := σ) (As := [.int v1, .int v2, .int v3]) (rest := []) ⟨hx, hb, hml, hown, hts⟩ hK hP hD hS (c_X8_callAll l D ad cI cJ cZ σ v1 v2 v3 hg_133) (cwV 3 hts gX8_follow_X8_callAll rfl rfl rfl hd_X8_callAll ⟨Nat.le_trans (Nat.le_of_ble_eq_true rfl) hR.1, Nat.le_trans (Nat.le_of_ble_eq_true rfl) hR.2⟩) rfl (wM_0 _ _ _ _ _) rfl hl.1 rfl (Nat.le_of_ble_eq_true rfl) dX8_follow_133 (fun H locs hP hS => ?_)
        refine lv_goto (tgt := 388) hx hb dX8_follow_136 (by decide) ?_
        exact w_X8_follow_388 hm hR hK hD r_133 hf _ _ _ hP hS (lv_sub hl [] rfl)
      rw [if_neg c_47_1] at hf
      by_cases c_47_2 : (σ.1 11 v1.toNatClampNeg) = 2
      · rw [if_pos c_47_2] at hf
        refine lv_tableIn (off := 92) (tgt := 139) hx hb dX8_follow_47 (by rw [c_47_2]; decide) (by rw [c_47_2]; decide) (by rw [c_47_2]; rfl) (by decide) ?_
        refine lv_aload_n hx hb dX8_follow_139 rfl (lv_at hl 0 rfl) ?_
        refine lv_iload_n hx hb dX8_follow_140 rfl (lv_at hl 2 rfl) ?_
        refine lv_iload_n hx hb dX8_follow_141 rfl (lv_at hl 2 rfl) ?_
        refine lv_iload_n hx hb dX8_follow_142 rfl (lv_at hl 3 rfl) ?_
        obtain ⟨r_143, hg_143, hf⟩ := oc_e hf
        refine mV_wi (wd := wM ad cI cJ cZ) (σ := σ) (As := [.int v2, .int v2, .int v3]) (rest := []) ⟨hx, hb, hml, hown, hts⟩ hK hP hD hS (c_X8_chosenOf l D ad cI cJ cZ σ v2 v2 v3 hg_143) (cwV 3 hts gX8_follow_X8_chosenOf rfl rfl rfl hd_X8_chosenOf ⟨Nat.le_trans (Nat.le_of_ble_eq_true rfl) hR.1, Nat.le_trans (Nat.le_of_ble_eq_true rfl) hR.2⟩) rfl (wM_0 _ _ _ _ _) rfl hl.1 rfl (Nat.le_of_ble_eq_true rfl) dX8_follow_143 (fun H locs hP hS => ?_)
        refine lv_istore (lv' := [(4, .int r_143.1), (0, .ref (ad 0)), (1, .int v1), (2, .int v2), (3, .int v3)]) hx hb dX8_follow_146 hl (by decide) rfl (fun ls hl => ?_)
        refine lv_iload hx hb dX8_follow_148 (lv_at hl 0 rfl) ?_
        refine lv_if_lt (tgt := 163) hx hb dX8_follow_150 (by decide) (fun c_150 => ?_) (fun c_150 => ?_)
        · rw [if_pos c_150] at hf
          refine lv_aload_n hx hb dX8_follow_163 rfl (lv_at hl 1 rfl) ?_
          refine lv_iload_n hx hb dX8_follow_164 rfl (lv_at hl 2 rfl) ?_
          refine lv_iload hx hb dX8_follow_165 (lv_at hl 0 rfl) ?_
          obtain ⟨r_167, hg_167, hf⟩ := oc_e hf
          refine mV_wv (wd := wM ad cI cJ cZ) (σ := r_143.2) (As := [.int v1, .int r_143.1]) (rest := []) ⟨hx, hb, hml, hown, hts⟩ hK hP hD hS (c_X8_fault l D ad cI cJ cZ r_143.2 v1 r_143.1 hg_167) (cwV 2 hts gX8_follow_X8_fault rfl rfl rfl hd_X8_fault ⟨Nat.le_trans (Nat.le_of_ble_eq_true rfl) hR.1, Nat.le_trans (Nat.le_of_ble_eq_true rfl) hR.2⟩) rfl (wM_0 _ _ _ _ _) rfl hl.1 rfl (Nat.le_of_ble_eq_true rfl) dX8_follow_167 (fun H locs hP hS => ?_)
          refine lv_goto (tgt := 388) hx hb dX8_follow_170 (by decide) ?_
          exact w_X8_follow_388 hm hR hK hD r_167 hf _ _ _ hP hS (lv_sub hl [] rfl)
        · rw [if_neg c_150] at hf
          refine lv_aload_n hx hb dX8_follow_153 rfl (lv_at hl 1 rfl) ?_
          refine lv_iload_n hx hb dX8_follow_154 rfl (lv_at hl 2 rfl) ?_
          refine lv_iload hx hb dX8_follow_155 (lv_at hl 0 rfl) ?_
          obtain ⟨r_157, hg_157, hf⟩ := oc_e hf
          refine mV_wv (wd := wM ad cI cJ cZ) (σ := r_143.2) (As := [.int v1, .int r_143.1]) (rest := []) ⟨hx, hb, hml, hown, hts⟩ hK hP hD hS (c_X8_call l D ad cI cJ cZ r_143.2 v1 r_143.1 hg_157) (cwV 2 hts gX8_follow_X8_call rfl rfl rfl hd_X8_call ⟨Nat.le_trans (Nat.le_of_ble_eq_true rfl) hR.1, Nat.le_trans (Nat.le_of_ble_eq_true rfl) hR.2⟩) rfl (wM_0 _ _ _ _ _) rfl hl.1 rfl (Nat.le_of_ble_eq_true rfl) dX8_follow_157 (fun H locs hP hS => ?_)
          refine lv_goto (tgt := 388) hx hb dX8_follow_160 (by decide) ?_
          exact w_X8_follow_388 hm hR hK hD r_157 hf _ _ _ hP hS (lv_sub hl [] rfl)
      rw [if_neg c_47_2] at hf
      by_cases c_47_3 : (σ.1 11 v1.toNatClampNeg) = 3
      · rw [if_pos c_47_3] at hf
        refine lv_tableIn (off := 126) (tgt := 173) hx hb dX8_follow_47 (by rw [c_47_3]; decide) (by rw [c_47_3]; decide) (by rw [c_47_3]; rfl) (by decide) ?_
        refine lv_aload_n hx hb dX8_follow_173 rfl (lv_at hl 0 rfl) ?_
        refine lv_iload_n hx hb dX8_follow_174 rfl (lv_at hl 2 rfl) ?_
        refine lv_iload_n hx hb dX8_follow_175 rfl (lv_at hl 3 rfl) ?_
        obtain ⟨r_176, hg_176, hf⟩ := oc_e hf
        refine mV_wi (wd := wM ad cI cJ cZ) (σ := σ) (As := [.int v2, .int v3]) (rest := []) ⟨hx, hb, hml, hown, hts⟩ hK hP hD hS (c_X8_find l D ad cI cJ cZ σ v2 v3 hg_176) (cwV 2 hts gX8_follow_X8_find rfl rfl rfl hd_X8_find ⟨Nat.le_trans (Nat.le_of_ble_eq_true rfl) hR.1, Nat.le_trans (Nat.le_of_ble_eq_true rfl) hR.2⟩) rfl (wM_0 _ _ _ _ _) rfl hl.1 rfl (Nat.le_of_ble_eq_true rfl) dX8_follow_176 (fun H locs hP hS => ?_)
        refine lv_istore (lv' := [(5, .int r_176.1), (0, .ref (ad 0)), (1, .int v1), (2, .int v2), (3, .int v3), (4, .int v4)]) hx hb dX8_follow_179 hl (by decide) rfl (fun ls hl => ?_)
        refine lv_iload hx hb dX8_follow_181 (lv_at hl 0 rfl) ?_
        refine lv_iconst (v := (-1)) hx hb dX8_follow_183 (by decide) ?_
        refine lv_icmp_eq (tgt := 220) hx hb dX8_follow_184 (by decide) (fun c_184 => ?_) (fun c_184 => ?_)
        · rw [if_pos c_184] at hf
          exact w_X8_follow_220 hm hR hK hD v1 r_176.1 r_176.2 hf _ _ _ hP hS (lv_sub hl [1, 2, 0] rfl)
        · rw [if_neg c_184] at hf
          refine lv_aload_n hx hb dX8_follow_187 rfl (lv_at hl 1 rfl) ?_
          refine va_get (D := D) (ci := 7) (v := .ref (ad 7)) (C := RX8) (T := TX8) (N := 50) hx hb hts in_X8_follow_X8 hown hK hP 0 (wM_0 _ _ _ _ _) rfl 8 (by decide) (hts (.fieldLink RX8 28 "CallGraphsModel" "sortOf" "[I") (List.mem_of_getElem? (i := 7) rfl)) (fun _ h9 => h9) (fM_0_8 _ _) dX8_follow_188 ?_
          refine lv_iload hx hb dX8_follow_191 (lv_at hl 0 rfl) ?_
          obtain ⟨h_193, hf⟩ := oi_e hf
          refine va_iald hx hb hK hP 7 0 (wM_7 _ _ _ _ _) rfl h_193 dX8_follow_193 ?_
          refine lv_iconst (v := 2) hx hb dX8_follow_194 (by decide) ?_
          refine lv_icmp_ne (tgt := 220) hx hb dX8_follow_195 (by decide) (fun c_195 => ?_) (fun c_195 => ?_)
          · rw [if_neg c_195] at hf
            exact w_X8_follow_220 hm hR hK hD v1 r_176.1 r_176.2 hf _ _ _ hP hS (lv_sub hl [1, 2, 0] rfl)
          · rw [if_pos c_195] at hf
            refine lv_aload_n hx hb dX8_follow_198 rfl (lv_at hl 1 rfl) ?_
            refine lv_iload_n hx hb dX8_follow_199 rfl (lv_at hl 2 rfl) ?_
            refine lv_iload hx hb dX8_follow_200 (lv_at hl 0 rfl) ?_
            obtain ⟨r_202, hg_202, hf⟩ := oc_e hf
            refine mV_wv (wd := wM ad cI cJ cZ) (σ := r_176.2) (As := [.int v1, .int r_176.1]) (rest := []) ⟨hx, hb, hml, hown, hts⟩ hK hP hD hS (c_X8_call l D ad cI cJ cZ r_176.2 v1 r_176.1 hg_202) (cwV 2 hts gX8_follow_X8_call rfl rfl rfl hd_X8_call ⟨Nat.le_trans (Nat.le_of_ble_eq_true rfl) hR.1, Nat.le_trans (Nat.le_of_ble_eq_true rfl) hR.2⟩) rfl (wM_0 _ _ _ _ _) rfl hl.1 rfl (Nat.le_of_ble_eq_true rfl) dX8_follow_202 (fun H locs hP hS => ?_)
            refine lv_aload_n hx hb dX8_follow_205 rfl (lv_at hl 1 rfl) ?_
            refine lv_iload_n hx hb dX8_follow_206 rfl (lv_at hl 2 rfl) ?_
            refine lv_aload_n hx hb dX8_follow_207 rfl (lv_at hl 1 rfl) ?_
            refine va_get (D := D) (ci := 7) (v := .ref (ad 5)) (C := RX8) (T := TX8) (N := 50) hx hb hts in_X8_follow_X8 hown hK hP 0 (wM_0 _ _ _ _ _) rfl 6 (by decide) (hts (.fieldLink RX8 22 "CallGraphsModel" "typeOf" "[I") (List.mem_of_getElem? (i := 8) rfl)) (fun _ h9 => h9) (fM_0_6 _ _) dX8_follow_208 ?_
            refine lv_iload hx hb dX8_follow_211 (lv_at hl 0 rfl) ?_
            obtain ⟨h_213, hf⟩ := oi_e hf
            refine va_iald hx hb hK hP 5 0 (wM_5 _ _ _ _ _) rfl h_213 dX8_follow_213 ?_
            obtain ⟨r_214, hg_214, hf⟩ := oc_e hf
            refine mV_wv (wd := wM ad cI cJ cZ) (σ := r_202) (As := [.int v1, .int (r_202.1 5 r_176.1.toNatClampNeg)]) (rest := []) ⟨hx, hb, hml, hown, hts⟩ hK hP hD hS (c_X8_beginBy l D ad cI cJ cZ r_202 v1 (r_202.1 5 r_176.1.toNatClampNeg) hg_214) (cwV 2 hts gX8_follow_X8_beginBy rfl rfl rfl hd_X8_beginBy ⟨Nat.le_trans (Nat.le_of_ble_eq_true rfl) hR.1, Nat.le_trans (Nat.le_of_ble_eq_true rfl) hR.2⟩) rfl (wM_0 _ _ _ _ _) rfl hl.1 rfl (Nat.le_of_ble_eq_true rfl) dX8_follow_214 (fun H locs hP hS => ?_)
            refine lv_goto (tgt := 388) hx hb dX8_follow_217 (by decide) ?_
            exact w_X8_follow_388 hm hR hK hD r_214 hf _ _ _ hP hS (lv_sub hl [] rfl)
      rw [if_neg c_47_3] at hf
      by_cases c_47_4 : (σ.1 11 v1.toNatClampNeg) = 4
      · rw [if_pos c_47_4] at hf
        refine lv_tableIn (off := 194) (tgt := 241) hx hb dX8_follow_47 (by rw [c_47_4]; decide) (by rw [c_47_4]; decide) (by rw [c_47_4]; rfl) (by decide) ?_
        refine lv_aload_n hx hb dX8_follow_241 rfl (lv_at hl 0 rfl) ?_
        refine lv_iload_n hx hb dX8_follow_242 rfl (lv_at hl 1 rfl) ?_
        refine lv_iload_n hx hb dX8_follow_243 rfl (lv_at hl 2 rfl) ?_
        refine lv_iload_n hx hb dX8_follow_244 rfl (lv_at hl 3 rfl) ?_
        obtain ⟨r_245, hg_245, hf⟩ := oc_e hf
        refine mV_wv (wd := wM ad cI cJ cZ) (σ := σ) (As := [.int v1, .int v2, .int v3]) (rest := []) ⟨hx, hb, hml, hown, hts⟩ hK hP hD hS (c_X8_callAll l D ad cI cJ cZ σ v1 v2 v3 hg_245) (cwV 3 hts gX8_follow_X8_callAll rfl rfl rfl hd_X8_callAll ⟨Nat.le_trans (Nat.le_of_ble_eq_true rfl) hR.1, Nat.le_trans (Nat.le_of_ble_eq_true rfl) hR.2⟩) rfl (wM_0 _ _ _ _ _) rfl hl.1 rfl (Nat.le_of_ble_eq_true rfl) dX8_follow_245 (fun H locs hP hS => ?_)
        refine lv_goto (tgt := 388) hx hb dX8_follow_248 (by decide) ?_
        exact w_X8_follow_388 hm hR hK hD r_245 hf _ _ _ hP hS (lv_sub hl [] rfl)
      rw [if_neg c_47_4] at hf
      by_cases c_47_5 : (σ.1 11 v1.toNatClampNeg) = 5
      · rw [if_pos c_47_5] at hf
        refine lv_tableIn (off := 204) (tgt := 251) hx hb dX8_follow_47 (by rw [c_47_5]; decide) (by rw [c_47_5]; decide) (by rw [c_47_5]; rfl) (by decide) ?_
        refine lv_aload_n hx hb dX8_follow_251 rfl (lv_at hl 0 rfl) ?_
        refine lv_aload_n hx hb dX8_follow_252 rfl (lv_at hl 0 rfl) ?_
        refine va_get (D := D) (ci := 7) (v := .int (σ.1 0 17)) (C := RX8) (T := TX8) (N := 50) hx hb hts in_X8_follow_X8 hown hK hP 0 (wM_0 _ _ _ _ _) rfl 17 (by decide) (hts (.fieldLink RX8 186 "CallGraphsModel" "grew" "Z") (List.mem_of_getElem? (i := 5) rfl)) (fun _ h9 => h9) (fM_0_17 _ _) dX8_follow_253 ?_
        refine lv_if_ne (tgt := 273) hx hb dX8_follow_256 (by decide) (fun c_256 => ?_) (fun c_256 => ?_)
        · rw [if_neg c_256] at hf
          exact w_X8_follow_273 hm hR hK hD v2 v3 σ hf _ _ _ hP hS (lv_sub hl [0, 2, 3] rfl)
        · rw [if_pos c_256] at hf
          refine lv_aload_n hx hb dX8_follow_259 rfl (lv_at hl 0 rfl) ?_
          refine va_get (D := D) (ci := 7) (v := .ref (ad 17)) (C := RX8) (T := TX8) (N := 50) hx hb hts in_X8_follow_X8 hown hK hP 0 (wM_0 _ _ _ _ _) rfl 21 (by decide) (hts (.fieldLink RX8 59 "CallGraphsModel" "inBag" "[Z") (List.mem_of_getElem? (i := 9) rfl)) (fun _ h9 => h9) (fM_0_21 _ _) dX8_follow_260 ?_
          refine lv_bipush (v := 48) hx hb dX8_follow_263 (by decide) ?_
          refine lv_iload_n hx hb dX8_follow_265 rfl (lv_at hl 2 rfl) ?_
          refine lv_imul hx hb dX8_follow_266 ?_
          refine lv_iload_n hx hb dX8_follow_267 rfl (lv_at hl 3 rfl) ?_
          refine lv_iadd hx hb dX8_follow_268 ?_
          obtain ⟨h_269, hf⟩ := oi_e hf
          refine va_zald hx hb hK hP 17 2 (wM_17 _ _ _ _ _) rfl h_269 dX8_follow_269 ?_
          refine lv_if_ne (tgt := 277) hx hb dX8_follow_270 (by decide) (fun c_270 => ?_) (fun c_270 => ?_)
          · rw [if_neg c_270] at hf
            refine lv_iconst (v := 0) hx hb dX8_follow_277 (by decide) ?_
            exact w_X8_follow_278 hm hR hK hD v2 v3 0 σ hf _ _ _ hP hS (lv_sub hl [0, 2, 3] rfl)
          · rw [if_pos c_270] at hf
            exact w_X8_follow_273 hm hR hK hD v2 v3 σ hf _ _ _ hP hS (lv_sub hl [0, 2, 3] rfl)
      rw [if_neg c_47_5] at hf
      by_cases c_47_6 : (σ.1 11 v1.toNatClampNeg) = 6
      · rw [if_pos c_47_6] at hf
        refine lv_tableIn (off := 249) (tgt := 296) hx hb dX8_follow_47 (by rw [c_47_6]; decide) (by rw [c_47_6]; decide) (by rw [c_47_6]; rfl) (by decide) ?_
        refine lv_iconst (v := 0) hx hb dX8_follow_296 (by decide) ?_
        refine lv_istore (lv' := [(6, .int 0), (0, .ref (ad 0)), (1, .int v1), (2, .int v2), (3, .int v3), (4, .int v4)]) hx hb dX8_follow_297 hl (by decide) rfl (fun ls hl => ?_)
        exact w_X8_follow_299 hm hR hK hD 100000 v1 v2 0 σ hf _ _ _ hP hS (lv_sub hl [1, 2, 3, 0] rfl)
      rw [if_neg c_47_6] at hf
      refine lv_tableOut (tgt := 339) hx hb dX8_follow_47 (by have g0 := lv_neT c_47_0 (a := 0) (by decide); have g1 := lv_neT c_47_1 (a := 1) (by decide); have g2 := lv_neT c_47_2 (a := 2) (by decide); have g3 := lv_neT c_47_3 (a := 3) (by decide); have g4 := lv_neT c_47_4 (a := 4) (by decide); have g5 := lv_neT c_47_5 (a := 5) (by decide); have g6 := lv_neT c_47_6 (a := 6) (by decide); omega) (by decide) ?_
      refine lv_iconst (v := 0) hx hb dX8_follow_339 (by decide) ?_
      refine lv_istore (lv' := [(6, .int 0), (0, .ref (ad 0)), (1, .int v1), (2, .int v2), (3, .int v3), (4, .int v4)]) hx hb dX8_follow_340 hl (by decide) rfl (fun ls hl => ?_)
      exact w_X8_follow_342 hm hR hK hD 100000 v1 v3 0 σ hf _ _ _ hP hS (lv_sub hl [1, 2, 4, 0] rfl)
    · rw [if_neg c_20] at hf
      refine lv_aload_n hx hb dX8_follow_23 rfl (lv_at hl 0 rfl) ?_
      refine va_get (D := D) (ci := 7) (v := .ref (ad 19)) (C := RX8) (T := TX8) (N := 50) hx hb hts in_X8_follow_X8 hown hK hP 0 (wM_0 _ _ _ _ _) rfl 23 (by decide) (hts (.fieldLink RX8 65 "CallGraphsModel" "faultMany" "[I") (List.mem_of_getElem? (i := 3) rfl)) (fun _ h9 => h9) (fM_0_23 _ _) dX8_follow_24 ?_
      refine lv_iconst (v := 4) hx hb dX8_follow_27 (by decide) ?_
      refine lv_iload_n hx hb dX8_follow_28 rfl (lv_at hl 1 rfl) ?_
      refine lv_imul hx hb dX8_follow_29 ?_
      refine lv_iload hx hb dX8_follow_30 (lv_at hl 4 rfl) ?_
      refine lv_iadd hx hb dX8_follow_32 ?_
      refine lv_iconst (v := 0) hx hb dX8_follow_33 (by decide) ?_
      obtain ⟨h_34, hf⟩ := oi_e hf
      refine va_iast hx hb hK hP (hD _) hS 19 0 (wM_19 _ _ _ _ _) rfl h_34 dX8_follow_34 (fun H locs hP _ hS => ?_)
      have hP := wM_s19 hP
      obtain ⟨s_34, es_34, hf⟩ := os_e hf
      rw [← es_34] at hP
      refine lv_iinc (v := (v4 + 1)) (lv' := [(4, .int (v4 + 1)), (0, .ref (ad 0)), (1, .int v1), (2, .int v2), (3, .int v3)]) hx hb dX8_follow_35 hl (k := 4) rfl rfl (by decide) rfl (fun ls hl => ?_)
      refine lv_goto (tgt := 17) hx hb dX8_follow_38 (by decide) ?_
      exact hk17 v1 v2 v3 (v4 + 1) s_34 hf _ _ _ hP hS (lv_sub hl [1, 2, 3, 4, 0] rfl)
def p_X8_follow_0 (v1 : Int32) (σ : SS) : Option (SS) := oi v1 160 (oi v1 160 (p_X8_follow_17 100000 v1 (σ.1 12 v1.toNatClampNeg) (σ.1 13 v1.toNatClampNeg) 0 σ))
set_option maxHeartbeats 4000000 in
set_option maxRecDepth 100000 in
theorem w_X8_follow_0 {p : Program} {l : Launch} {e : Env} {R : Room} {s : State} {m : MethodId} {args : Array Value} {below : List Frame} {meth : Method} {c : Code} {D : va_G} {ad : Nat → Nat} {cI cJ cZ : ClassId} {res : SS} (hm : mx p s m args meth c cX8_follow 7 none wsX8_follow RX8) (hR : 5 ≤ R.frames ∧ 127 ≤ R.locals) (hK : va_K D vwCl (tyw cI cJ cZ) s) (hD : ∀ σ, va_D (aM ad) (wM ad cI cJ cZ σ)) (v1 : Int32) (σ : SS) (hf : p_X8_follow_0 v1 σ = some res) (H : Heap) (locs : List Loc) (ls : Array Slot) (hP : va_P D vwCl (wM ad cI cJ cZ σ) H) (hS : va_S (aM ad) s.heap H locs) (hl : lv_has ls 7 [(0, .ref (ad 0)), (1, .int v1)]) : W p l e R s m args below meth c H locs 0 0 (MQ below (va_Qv (fun (u : SS) => u = res) (fun u t => va_P D vwCl (wM ad cI cJ cZ u) t.heap) (aM ad)) args s 0 0 (aM ad)) (F0 m 0 ls []) := by
  obtain ⟨hx, hb, hr, hml, hown, hts, hlk⟩ := id hm
  unfold p_X8_follow_0 at hf
  refine lv_aload_n hx hb dX8_follow_0 rfl (lv_at hl 0 rfl) ?_
  refine va_get (D := D) (ci := 7) (v := .ref (ad 12)) (C := RX8) (T := TX8) (N := 50) hx hb hts in_X8_follow_X8 hown hK hP 0 (wM_0 _ _ _ _ _) rfl 14 (by decide) (hts (.fieldLink RX8 44 "CallGraphsModel" "opA" "[I") (List.mem_of_getElem? (i := 1) rfl)) (fun _ h9 => h9) (fM_0_14 _ _) dX8_follow_1 ?_
  refine lv_iload_n hx hb dX8_follow_4 rfl (lv_at hl 1 rfl) ?_
  obtain ⟨h_5, hf⟩ := oi_e hf
  refine va_iald hx hb hK hP 12 0 (wM_12 _ _ _ _ _) rfl h_5 dX8_follow_5 ?_
  refine lv_istore_n (lv' := [(2, .int (σ.1 12 v1.toNatClampNeg)), (0, .ref (ad 0)), (1, .int v1)]) hx hb dX8_follow_6 rfl hl (by decide) rfl (fun ls hl => ?_)
  refine lv_aload_n hx hb dX8_follow_7 rfl (lv_at hl 1 rfl) ?_
  refine va_get (D := D) (ci := 7) (v := .ref (ad 13)) (C := RX8) (T := TX8) (N := 50) hx hb hts in_X8_follow_X8 hown hK hP 0 (wM_0 _ _ _ _ _) rfl 15 (by decide) (hts (.fieldLink RX8 47 "CallGraphsModel" "opB" "[I") (List.mem_of_getElem? (i := 2) rfl)) (fun _ h9 => h9) (fM_0_15 _ _) dX8_follow_8 ?_
  refine lv_iload_n hx hb dX8_follow_11 rfl (lv_at hl 2 rfl) ?_
  obtain ⟨h_12, hf⟩ := oi_e hf
  refine va_iald hx hb hK hP 13 0 (wM_13 _ _ _ _ _) rfl h_12 dX8_follow_12 ?_
  refine lv_istore_n (lv' := [(3, .int (σ.1 13 v1.toNatClampNeg)), (2, .int (σ.1 12 v1.toNatClampNeg)), (0, .ref (ad 0)), (1, .int v1)]) hx hb dX8_follow_13 rfl hl (by decide) rfl (fun ls hl => ?_)
  refine lv_iconst (v := 0) hx hb dX8_follow_14 (by decide) ?_
  refine lv_istore (lv' := [(4, .int 0), (3, .int (σ.1 13 v1.toNatClampNeg)), (2, .int (σ.1 12 v1.toNatClampNeg)), (0, .ref (ad 0)), (1, .int v1)]) hx hb dX8_follow_15 hl (by decide) rfl (fun ls hl => ?_)
  exact w_X8_follow_17 hm hR hK hD 100000 v1 (σ.1 12 v1.toNatClampNeg) (σ.1 13 v1.toNatClampNeg) 0 σ hf _ _ _ hP hS (lv_sub hl [3, 4, 2, 1, 0] rfl)
theorem hd_X8_follow : yX8_follow.cls = RX8 ∧ yX8_follow.cls ≠ "java/lang/invoke/MethodHandle" ∧ yX8_follow.cls ≠ "java/lang/invoke/VarHandle" ∧ (parseMethodDescriptor yX8_follow.desc).map (fun d => d.parameters.length) = some 1 := by decide +kernel
set_option maxHeartbeats 4000000 in
set_option maxRecDepth 100000 in
theorem c_X8_follow (l : Launch) (D : va_G) (ad : Nat → Nat) (cI cJ cZ : ClassId) (σ : SS) (v1 : Int32) {res : SS} (hf : p_X8_follow_0 v1 σ = some res) : Met l yX8_follow wsX8_follow ({ frames := 5, cells := 0, slots := 0, locals := 127 } : Room) (PW D (tyw cI cJ cZ) (wM ad cI cJ cZ σ) [.ref (ad 0), .int v1]) (va_Qv (fun (u : SS) => u = res) (fun u t => va_P D vwCl (wM ad cI cJ cZ u) t.heap) (aM ad)) 0 0 (aM ad) := by
  refine Met.ofW (cc := cX8_follow) (maxL := 7) (ret := none) (by decide) rfl ?_
  intro p e s m args below meth c s₁ B hml hv
  obtain ⟨rfl, hP, hK, hD0⟩ := hv
  have hD : ∀ σ, va_D (aM ad) (wM ad cI cJ cZ σ) := fun σ => wd_D hD0 (wM_map _ _ _ _ _) (wM_map _ _ _ _ _)
  have hm : mx p s m _ meth c cX8_follow 7 none wsX8_follow RX8 := ⟨B.exec, B.bytes, B.returns, hml, findClass_of_methodNamed B.named, atoms_spec (ws := wsX8_follow) B.pre, B.notSynchronized⟩
  have hl := lv_entry ([.ref (ad 0), .int v1]) (n := 7) (Nat.le_of_ble_eq_true rfl)
  rw [lg_entry_eq]
  generalize (lg_sl ([.ref (ad 0), .int v1]) ++ List.replicate (7 - (lg_sl ([.ref (ad 0), .int v1])).length) Slot.unset).toArray = ls at hl ⊢
  exact w_X8_follow_0 hm ⟨Nat.le_refl _, Nat.le_refl _⟩ hK hD v1 σ hf _ _ _ hP va_S.rf hl
