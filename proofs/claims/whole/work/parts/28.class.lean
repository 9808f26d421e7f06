/-! CallGraphs.type(II)I -/
theorem in_X7_type_X7 : ∀ w ∈ u_ws RX7 TX7 6, w ∈ wsX7_type := fun w h => List.mem_cons_of_mem _ (List.mem_append_left _ (List.mem_append_left _ (List.mem_append_left _ (List.mem_append_left _ (List.mem_append_right _ h)))))
def p_X7_type_28 (σ : SS) : Option (Int32 × SS) := some ((-102), σ)
set_option maxHeartbeats 4000000 in
set_option maxRecDepth 100000 in
theorem w_X7_type_28 {p : Program} {l : Launch} {e : Env} {R : Room} {s : State} {m : MethodId} {args : Array Value} {below : List Frame} {meth : Method} {c : Code} {D : va_G} {ad : Nat → Nat} {cI cJ cZ : ClassId} {res : Int32 × SS} (hm : mx p s m args meth c cX7_type 4 (some .int) wsX7_type RX7) (hR : 6 ≤ R.frames ∧ 143 ≤ R.locals) (hK : va_K D vwCl (tyw cI cJ cZ) s) (hD : ∀ σ, va_D (aC ad) (wC ad cI cJ cZ σ)) (σ : SS) (hf : p_X7_type_28 σ = some res) (H : Heap) (locs : List Loc) (ls : Array Slot) (hP : va_P D vwCl (wC ad cI cJ cZ σ) H) (hS : va_S (aC ad) s.heap H locs) (hl : lv_has ls 4 []) : W p l e R s m args below meth c H locs 0 0 (MQ below (va_Qi (fun (r : Int32) (u : SS) => (r, u) = res) (fun u t => va_P D vwCl (wC ad cI cJ cZ u) t.heap) (aC ad)) args s 0 0 (aC ad)) (F0 m 28 ls []) := by
  obtain ⟨hx, hb, hr, hml, hown, hts, hlk⟩ := id hm
  unfold p_X7_type_28 at hf
  refine lv_bipush (v := (-102)) hx hb dX7_type_28 (by decide) ?_
  exact rt_i (wd := wC ad cI cJ cZ) hx hb hr hlk (Option.some.inj hf) hP hS dX7_type_30
def p_X7_type_52 (σ : SS) : Option (Int32 × SS) := some ((-102), σ)
set_option maxHeartbeats 4000000 in
set_option maxRecDepth 100000 in
theorem w_X7_type_52 {p : Program} {l : Launch} {e : Env} {R : Room} {s : State} {m : MethodId} {args : Array Value} {below : List Frame} {meth : Method} {c : Code} {D : va_G} {ad : Nat → Nat} {cI cJ cZ : ClassId} {res : Int32 × SS} (hm : mx p s m args meth c cX7_type 4 (some .int) wsX7_type RX7) (hR : 6 ≤ R.frames ∧ 143 ≤ R.locals) (hK : va_K D vwCl (tyw cI cJ cZ) s) (hD : ∀ σ, va_D (aC ad) (wC ad cI cJ cZ σ)) (σ : SS) (hf : p_X7_type_52 σ = some res) (H : Heap) (locs : List Loc) (ls : Array Slot) (hP : va_P D vwCl (wC ad cI cJ cZ σ) H) (hS : va_S (aC ad) s.heap H locs) (hl : lv_has ls 4 []) : W p l e R s m args below meth c H locs 0 0 (MQ below (va_Qi (fun (r : Int32) (u : SS) => (r, u) = res) (fun u t => va_P D vwCl (wC ad cI cJ cZ u) t.heap) (aC ad)) args s 0 0 (aC ad)) (F0 m 52 ls []) := by
  obtain ⟨hx, hb, hr, hml, hown, hts, hlk⟩ := id hm
  unfold p_X7_type_52 at hf
  refine lv_bipush (v := (-102)) hx hb dX7_type_52 (by decide) ?_
  exact rt_i (wd := wC ad cI cJ cZ) hx hb hr hlk (Option.some.inj hf) hP hS dX7_type_54
def p_X7_type_55 (v1 : Int32) (v2 : Int32) (σ : SS) : Option (Int32 × SS) := oc (p_X6_size_0 σ) (fun r_59 => if r_59 < 16 then oc (p_X3_forget_0 σ) (fun r_74 => oc (p_X6_add_0 v1 v2 r_74) (fun r_83 => oc (p_X1_tellAll_0 r_83.2) (fun r_91 => some (r_83.1, r_91)))) else some ((-104), σ))
set_option maxHeartbeats 4000000 in
set_option maxRecDepth 100000 in
theorem w_X7_type_55 {p : Program} {l : Launch} {e : Env} {R : Room} {s : State} {m : MethodId} {args : Array Value} {below : List Frame} {meth : Method} {c : Code} {D : va_G} {ad : Nat → Nat} {cI cJ cZ : ClassId} {res : Int32 × SS} (hm : mx p s m args meth c cX7_type 4 (some .int) wsX7_type RX7) (hR : 6 ≤ R.frames ∧ 143 ≤ R.locals) (hK : va_K D vwCl (tyw cI cJ cZ) s) (hD : ∀ σ, va_D (aC ad) (wC ad cI cJ cZ σ)) (v1 : Int32) (v2 : Int32) (σ : SS) (hf : p_X7_type_55 v1 v2 σ = some res) (H : Heap) (locs : List Loc) (ls : Array Slot) (hP : va_P D vwCl (wC ad cI cJ cZ σ) H) (hS : va_S (aC ad) s.heap H locs) (hl : lv_has ls 4 [(0, .ref (ad 0)), (1, .int v1), (2, .int v2)]) : W p l e R s m args below meth c H locs 0 0 (MQ below (va_Qi (fun (r : Int32) (u : SS) => (r, u) = res) (fun u t => va_P D vwCl (wC ad cI cJ cZ u) t.heap) (aC ad)) args s 0 0 (aC ad)) (F0 m 55 ls []) := by
  obtain ⟨hx, hb, hr, hml, hown, hts, hlk⟩ := id hm
  unfold p_X7_type_55 at hf
  refine lv_aload_n hx hb dX7_type_55 rfl (lv_at hl 0 rfl) ?_
  refine va_get (D := D) (ci := 6) (v := .ref (ad 1)) (C := RX7) (T := TX7) (N := 6) hx hb hts in_X7_type_X7 hown hK hP 0 (wC_0 _ _ _ _ _) rfl 0 (by decide) (hts (.fieldLink RX7 10 "CallGraphs" "types" "LCallGraphs$Types;") (List.mem_of_getElem? (i := 1) rfl)) (fun _ h9 => h9) (fC_0_0 _ _) dX7_type_56 ?_
  obtain ⟨r_59, hg_59, hf⟩ := oc_e hf
  refine mV_ri (wd := wC ad cI cJ cZ) (σ := σ) (As := []) (rest := []) ⟨hx, hb, hml, hown, hts⟩ hK hP hD hS (c_X6_size l D ad cI cJ cZ σ hg_59) (cwV 0 hts gX7_type_X6_size rfl rfl rfl hd_X6_size ⟨Nat.le_trans (Nat.le_of_ble_eq_true rfl) hR.1, Nat.le_trans (Nat.le_of_ble_eq_true rfl) hR.2⟩) rfl (wC_1 _ _ _ _ _) rfl hl.1 rfl (Nat.le_of_ble_eq_true rfl) dX7_type_59 (fun H locs hP hS => ?_)
  refine lv_bipush (v := 16) hx hb dX7_type_62 (by decide) ?_
  refine lv_icmp_lt (tgt := 70) hx hb dX7_type_64 (by decide) (fun c_64 => ?_) (fun c_64 => ?_)
  · rw [if_pos c_64] at hf
    refine lv_aload_n hx hb dX7_type_70 rfl (lv_at hl 0 rfl) ?_
    refine va_get (D := D) (ci := 6) (v := .ref (ad 5)) (C := RX7) (T := TX7) (N := 6) hx hb hts in_X7_type_X7 hown hK hP 0 (wC_0 _ _ _ _ _) rfl 4 (by decide) (hts (.fieldLink RX7 46 "CallGraphs" "graph" "LCallGraphs$Graph;") (List.mem_of_getElem? (i := 2) rfl)) (fun _ h9 => h9) (fC_0_4 _ _) dX7_type_71 ?_
    obtain ⟨r_74, hg_74, hf⟩ := oc_e hf
    refine mV_wv (wd := wC ad cI cJ cZ) (σ := σ) (As := []) (rest := []) ⟨hx, hb, hml, hown, hts⟩ hK hP hD hS (c_X3_forget l D ad cI cJ cZ σ hg_74) (cwV 0 hts gX7_type_X3_forget rfl rfl rfl hd_X3_forget ⟨Nat.le_trans (Nat.le_of_ble_eq_true rfl) hR.1, Nat.le_trans (Nat.le_of_ble_eq_true rfl) hR.2⟩) rfl (wC_5 _ _ _ _ _) rfl hl.1 rfl (Nat.le_of_ble_eq_true rfl) dX7_type_74 (fun H locs hP hS => ?_)
    refine lv_aload_n hx hb dX7_type_77 rfl (lv_at hl 0 rfl) ?_
    refine va_get (D := D) (ci := 6) (v := .ref (ad 1)) (C := RX7) (T := TX7) (N := 6) hx hb hts in_X7_type_X7 hown hK hP 0 (wC_0 _ _ _ _ _) rfl 0 (by decide) (hts (.fieldLink RX7 10 "CallGraphs" "types" "LCallGraphs$Types;") (List.mem_of_getElem? (i := 1) rfl)) (fun _ h9 => h9) (fC_0_0 _ _) dX7_type_78 ?_
    refine lv_iload_n hx hb dX7_type_81 rfl (lv_at hl 1 rfl) ?_
    refine lv_iload_n hx hb dX7_type_82 rfl (lv_at hl 2 rfl) ?_
    obtain ⟨r_83, hg_83, hf⟩ := oc_e hf
    refine mV_wi (wd := wC ad cI cJ cZ) (σ := r_74) (As := [.int v1, .int v2]) (rest := []) ⟨hx, hb, hml, hown, hts⟩ hK hP hD hS (c_X6_add l D ad cI cJ cZ r_74 v1 v2 hg_83) (cwV 2 hts gX7_type_X6_add rfl rfl rfl hd_X6_add ⟨Nat.le_trans (Nat.le_of_ble_eq_true rfl) hR.1, Nat.le_trans (Nat.le_of_ble_eq_true rfl) hR.2⟩) rfl (wC_1 _ _ _ _ _) rfl hl.1 rfl (Nat.le_of_ble_eq_true rfl) dX7_type_83 (fun H locs hP hS => ?_)
    refine lv_istore_n (lv' := [(3, .int r_83.1), (0, .ref (ad 0)), (1, .int v1), (2, .int v2)]) hx hb dX7_type_86 rfl hl (by decide) rfl (fun ls hl => ?_)
    refine lv_aload_n hx hb dX7_type_87 rfl (lv_at hl 1 rfl) ?_
    refine va_get (D := D) (ci := 6) (v := .ref (ad 3)) (C := RX7) (T := TX7) (N := 6) hx hb hts in_X7_type_X7 hown hK hP 0 (wC_0 _ _ _ _ _) rfl 2 (by decide) (hts (.fieldLink RX7 30 "CallGraphs" "choices" "LCallGraphs$Choices;") (List.mem_of_getElem? (i := 3) rfl)) (fun _ h9 => h9) (fC_0_2 _ _) dX7_type_88 ?_
    obtain ⟨r_91, hg_91, hf⟩ := oc_e hf
    refine mV_wv (wd := wC ad cI cJ cZ) (σ := r_83.2) (As := []) (rest := []) ⟨hx, hb, hml, hown, hts⟩ hK hP hD hS (c_X1_tellAll l D ad cI cJ cZ r_83.2 hg_91) (cwV 0 hts gX7_type_X1_tellAll rfl rfl rfl hd_X1_tellAll ⟨Nat.le_trans (Nat.le_of_ble_eq_true rfl) hR.1, Nat.le_trans (Nat.le_of_ble_eq_true rfl) hR.2⟩) rfl (wC_3 _ _ _ _ _) rfl hl.1 rfl (Nat.le_of_ble_eq_true rfl) dX7_type_91 (fun H locs hP hS => ?_)
    refine lv_iload_n hx hb dX7_type_94 rfl (lv_at hl 0 rfl) ?_
    exact rt_i (wd := wC ad cI cJ cZ) hx hb hr hlk (Option.some.inj hf) hP hS dX7_type_95
  · rw [if_neg c_64] at hf
    refine lv_bipush (v := (-104)) hx hb dX7_type_67 (by decide) ?_
    exact rt_i (wd := wC ad cI cJ cZ) hx hb hr hlk (Option.some.inj hf) hP hS dX7_type_69
def p_X7_type_19 (v1 : Int32) (v2 : Int32) (σ : SS) : Option (Int32 × SS) := if v1 < 0 then p_X7_type_28 σ else if v1 ≤ 2 then if v2 = (-1) then p_X7_type_55 v1 v2 σ else if v1 = 2 then p_X7_type_52 σ else oc (p_X6_isFace_0 σ v2) (fun r_46 => if r_46 = 0 then p_X7_type_55 v1 v2 σ else p_X7_type_52 σ) else p_X7_type_28 σ
set_option maxHeartbeats 4000000 in
set_option maxRecDepth 100000 in
theorem w_X7_type_19 {p : Program} {l : Launch} {e : Env} {R : Room} {s : State} {m : MethodId} {args : Array Value} {below : List Frame} {meth : Method} {c : Code} {D : va_G} {ad : Nat → Nat} {cI cJ cZ : ClassId} {res : Int32 × SS} (hm : mx p s m args meth c cX7_type 4 (some .int) wsX7_type RX7) (hR : 6 ≤ R.frames ∧ 143 ≤ R.locals) (hK : va_K D vwCl (tyw cI cJ cZ) s) (hD : ∀ σ, va_D (aC ad) (wC ad cI cJ cZ σ)) (v1 : Int32) (v2 : Int32) (σ : SS) (hf : p_X7_type_19 v1 v2 σ = some res) (H : Heap) (locs : List Loc) (ls : Array Slot) (hP : va_P D vwCl (wC ad cI cJ cZ σ) H) (hS : va_S (aC ad) s.heap H locs) (hl : lv_has ls 4 [(0, .ref (ad 0)), (1, .int v1), (2, .int v2)]) : W p l e R s m args below meth c H locs 0 0 (MQ below (va_Qi (fun (r : Int32) (u : SS) => (r, u) = res) (fun u t => va_P D vwCl (wC ad cI cJ cZ u) t.heap) (aC ad)) args s 0 0 (aC ad)) (F0 m 19 ls []) := by
  obtain ⟨hx, hb, hr, hml, hown, hts, hlk⟩ := id hm
  unfold p_X7_type_19 at hf
  refine lv_iload_n hx hb dX7_type_19 rfl (lv_at hl 1 rfl) ?_
  refine lv_if_lt (tgt := 28) hx hb dX7_type_20 (by decide) (fun c_20 => ?_) (fun c_20 => ?_)
  · rw [if_pos c_20] at hf
    exact w_X7_type_28 hm hR hK hD σ hf _ _ _ hP hS (lv_sub hl [] rfl)
  · rw [if_neg c_20] at hf
    refine lv_iload_n hx hb dX7_type_23 rfl (lv_at hl 1 rfl) ?_
    refine lv_iconst (v := 2) hx hb dX7_type_24 (by decide) ?_
    refine lv_icmp_le (tgt := 31) hx hb dX7_type_25 (by decide) (fun c_25 => ?_) (fun c_25 => ?_)
    · rw [if_pos c_25] at hf
      refine lv_iload_n hx hb dX7_type_31 rfl (lv_at hl 2 rfl) ?_
      refine lv_iconst (v := (-1)) hx hb dX7_type_32 (by decide) ?_
      refine lv_icmp_eq (tgt := 55) hx hb dX7_type_33 (by decide) (fun c_33 => ?_) (fun c_33 => ?_)
      · rw [if_pos c_33] at hf
        exact w_X7_type_55 hm hR hK hD v1 v2 σ hf _ _ _ hP hS (lv_sub hl [0, 1, 2] rfl)
      · rw [if_neg c_33] at hf
        refine lv_iload_n hx hb dX7_type_36 rfl (lv_at hl 1 rfl) ?_
        refine lv_iconst (v := 2) hx hb dX7_type_37 (by decide) ?_
        refine lv_icmp_eq (tgt := 52) hx hb dX7_type_38 (by decide) (fun c_38 => ?_) (fun c_38 => ?_)
        · rw [if_pos c_38] at hf
          exact w_X7_type_52 hm hR hK hD σ hf _ _ _ hP hS (lv_sub hl [] rfl)
        · rw [if_neg c_38] at hf
          refine lv_aload_n hx hb dX7_type_41 rfl (lv_at hl 0 rfl) ?_
          refine va_get (D := D) (ci := 6) (v := .ref (ad 1)) (C := RX7) (T := TX7) (N := 6) hx hb hts in_X7_type_X7 hown hK hP 0 (wC_0 _ _ _ _ _) rfl 0 (by decide) (hts (.fieldLink RX7 10 "CallGraphs" "types" "LCallGraphs$Types;") (List.mem_of_getElem? (i := 1) rfl)) (fun _ h9 => h9) (fC_0_0 _ _) dX7_type_42 ?_
          refine lv_iload_n hx hb dX7_type_45 rfl (lv_at hl 2 rfl) ?_
          obtain ⟨r_46, hg_46, hf⟩ := oc_e hf
          refine mV_ri (wd := wC ad cI cJ cZ) (σ := σ) (As := [.int v2]) (rest := []) ⟨hx, hb, hml, hown, hts⟩ hK hP hD hS (c_X6_isFace l D ad cI cJ cZ σ v2 hg_46) (cwV 1 hts gX7_type_X6_isFace rfl rfl rfl hd_X6_isFace ⟨Nat.le_trans (Nat.le_of_ble_eq_true rfl) hR.1, Nat.le_trans (Nat.le_of_ble_eq_true rfl) hR.2⟩) rfl (wC_1 _ _ _ _ _) rfl hl.1 rfl (Nat.le_of_ble_eq_true rfl) dX7_type_46 (fun H locs hP hS => ?_)
          refine lv_if_eq (tgt := 55) hx hb dX7_type_49 (by decide) (fun c_49 => ?_) (fun c_49 => ?_)
          · rw [if_pos c_49] at hf
            exact w_X7_type_55 hm hR hK hD v1 v2 σ hf _ _ _ hP hS (lv_sub hl [0, 1, 2] rfl)
          · rw [if_neg c_49] at hf
            exact w_X7_type_52 hm hR hK hD σ hf _ _ _ hP hS (lv_sub hl [] rfl)
    · rw [if_neg c_25] at hf
      exact w_X7_type_28 hm hR hK hD σ hf _ _ _ hP hS (lv_sub hl [] rfl)
def p_X7_type_0 (v1 : Int32) (v2 : Int32) (σ : SS) : Option (Int32 × SS) := if v2 = (-1) then p_X7_type_19 v1 v2 σ else oc (p_X6_knows_0 σ v2) (fun r_10 => if r_10 = 0 then some ((-101), σ) else p_X7_type_19 v1 v2 σ)
set_option maxHeartbeats 4000000 in
set_option maxRecDepth 100000 in
theorem w_X7_type_0 {p : Program} {l : Launch} {e : Env} {R : Room} {s : State} {m : MethodId} {args : Array Value} {below : List Frame} {meth : Method} {c : Code} {D : va_G} {ad : Nat → Nat} {cI cJ cZ : ClassId} {res : Int32 × SS} (hm : mx p s m args meth c cX7_type 4 (some .int) wsX7_type RX7) (hR : 6 ≤ R.frames ∧ 143 ≤ R.locals) (hK : va_K D vwCl (tyw cI cJ cZ) s) (hD : ∀ σ, va_D (aC ad) (wC ad cI cJ cZ σ)) (v1 : Int32) (v2 : Int32) (σ : SS) (hf : p_X7_type_0 v1 v2 σ = some res) (H : Heap) (locs : List Loc) (ls : Array Slot) (hP : va_P D vwCl (wC ad cI cJ cZ σ) H) (hS : va_S (aC ad) s.heap H locs) (hl : lv_has ls 4 [(0, .ref (ad 0)), (1, .int v1), (2, .int v2)]) : W p l e R s m args below meth c H locs 0 0 (MQ below (va_Qi (fun (r : Int32) (u : SS) => (r, u) = res) (fun u t => va_P D vwCl (wC ad cI cJ cZ u) t.heap) (aC ad)) args s 0 0 (aC ad)) (F0 m 0 ls []) := by
  obtain ⟨hx, hb, hr, hml, hown, hts, hlk⟩ := id hm
  unfold p_X7_type_0 at hf
  refine lv_iload_n hx hb dX7_type_0 rfl (lv_at hl 2 rfl) ?_
  refine lv_iconst (v := (-1)) hx hb dX7_type_1 (by decide) ?_
  refine lv_icmp_eq (tgt := 19) hx hb dX7_type_2 (by decide) (fun c_2 => ?_) (fun c_2 => ?_)
  · rw [if_pos c_2] at hf
    exact w_X7_type_19 hm hR hK hD v1 v2 σ hf _ _ _ hP hS (lv_sub hl [0, 1, 2] rfl)
  · rw [if_neg c_2] at hf
    refine lv_aload_n hx hb dX7_type_5 rfl (lv_at hl 0 rfl) ?_
    refine va_get (D := D) (ci := 6) (v := .ref (ad 1)) (C := RX7) (T := TX7) (N := 6) hx hb hts in_X7_type_X7 hown hK hP 0 (wC_0 _ _ _ _ _) rfl 0 (by decide) (hts (.fieldLink RX7 10 "CallGraphs" "types" "LCallGraphs$Types;") (List.mem_of_getElem? (i := 1) rfl)) (fun _ h9 => h9) (fC_0_0 _ _) dX7_type_6 ?_
    refine lv_iload_n hx hb dX7_type_9 rfl (lv_at hl 2 rfl) ?_
    obtain ⟨r_10, hg_10, hf⟩ := oc_e hf
    refine mV_ri (wd := wC ad cI cJ cZ) (σ := σ) (As := [.int v2]) (rest := []) ⟨hx, hb, hml, hown, hts⟩ hK hP hD hS (c_X6_knows l D ad cI cJ cZ σ v2 hg_10) (cwV 1 hts gX7_type_X6_knows rfl rfl rfl hd_X6_knows ⟨Nat.le_trans (Nat.le_of_ble_eq_true rfl) hR.1, Nat.le_trans (Nat.le_of_ble_eq_true rfl) hR.2⟩) rfl (wC_1 _ _ _ _ _) rfl hl.1 rfl (Nat.le_of_ble_eq_true rfl) dX7_type_10 (fun H locs hP hS => ?_)
    refine lv_if_ne (tgt := 19) hx hb dX7_type_13 (by decide) (fun c_13 => ?_) (fun c_13 => ?_)
    · rw [if_neg c_13] at hf
      exact w_X7_type_19 hm hR hK hD v1 v2 σ hf _ _ _ hP hS (lv_sub hl [0, 1, 2] rfl)
    · rw [if_pos c_13] at hf
      refine lv_bipush (v := (-101)) hx hb dX7_type_16 (by decide) ?_
      exact rt_i (wd := wC ad cI cJ cZ) hx hb hr hlk (Option.some.inj hf) hP hS dX7_type_18
theorem hd_X7_type : yX7_type.cls = RX7 ∧ yX7_type.cls ≠ "java/lang/invoke/MethodHandle" ∧ yX7_type.cls ≠ "java/lang/invoke/VarHandle" ∧ (parseMethodDescriptor yX7_type.desc).map (fun d => d.parameters.length) = some 2 := by decide +kernel
set_option maxHeartbeats 4000000 in
set_option maxRecDepth 100000 in
theorem c_X7_type (l : Launch) (D : va_G) (ad : Nat → Nat) (cI cJ cZ : ClassId) (σ : SS) (v1 : Int32) (v2 : Int32) {res : Int32 × SS} (hf : p_X7_type_0 v1 v2 σ = some res) : Met l yX7_type wsX7_type ({ frames := 6, cells := 0, slots := 0, locals := 143 } : Room) (PW D (tyw cI cJ cZ) (wC ad cI cJ cZ σ) [.ref (ad 0), .int v1, .int v2]) (va_Qi (fun (r : Int32) (u : SS) => (r, u) = res) (fun u t => va_P D vwCl (wC ad cI cJ cZ u) t.heap) (aC ad)) 0 0 (aC ad) := by
  refine Met.ofW (cc := cX7_type) (maxL := 4) (ret := (some .int)) (by decide) rfl ?_
  intro p e s m args below meth c s₁ B hml hv
  obtain ⟨rfl, hP, hK, hD0⟩ := hv
  have hD : ∀ σ, va_D (aC ad) (wC ad cI cJ cZ σ) := fun σ => wd_D hD0 (wC_map _ _ _ _ _) (wC_map _ _ _ _ _)
  have hm : mx p s m _ meth c cX7_type 4 (some .int) wsX7_type RX7 := ⟨B.exec, B.bytes, B.returns, hml, findClass_of_methodNamed B.named, atoms_spec (ws := wsX7_type) B.pre, B.notSynchronized⟩
  have hl := lv_entry ([.ref (ad 0), .int v1, .int v2]) (n := 4) (Nat.le_of_ble_eq_true rfl)
  rw [lg_entry_eq]
  generalize (lg_sl ([.ref (ad 0), .int v1, .int v2]) ++ List.replicate (4 - (lg_sl ([.ref (ad 0), .int v1, .int v2])).length) Slot.unset).toArray = ls at hl ⊢
  exact w_X7_type_0 hm ⟨Nat.le_refl _, Nat.le_refl _⟩ hK hD v1 v2 σ hf _ _ _ hP va_S.rf hl
/-! CallGraphs.face(II)I -/
theorem in_X7_face_X7 : ∀ w ∈ u_ws RX7 TX7 6, w ∈ wsX7_face := fun w h => List.mem_cons_of_mem _ (List.mem_append_left _ (List.mem_append_left _ (List.mem_append_left _ (List.mem_append_left _ (List.mem_append_right _ h)))))
def p_X7_face_22 (σ : SS) : Option (Int32 × SS) := some ((-101), σ)
set_option maxHeartbeats 4000000 in
set_option maxRecDepth 100000 in
theorem w_X7_face_22 {p : Program} {l : Launch} {e : Env} {R : Room} {s : State} {m : MethodId} {args : Array Value} {below : List Frame} {meth : Method} {c : Code} {D : va_G} {ad : Nat → Nat} {cI cJ cZ : ClassId} {res : Int32 × SS} (hm : mx p s m args meth c cX7_face 4 (some .int) wsX7_face RX7) (hR : 6 ≤ R.frames ∧ 143 ≤ R.locals) (hK : va_K D vwCl (tyw cI cJ cZ) s) (hD : ∀ σ, va_D (aC ad) (wC ad cI cJ cZ σ)) (σ : SS) (hf : p_X7_face_22 σ = some res) (H : Heap) (locs : List Loc) (ls : Array Slot) (hP : va_P D vwCl (wC ad cI cJ cZ σ) H) (hS : va_S (aC ad) s.heap H locs) (hl : lv_has ls 4 []) : W p l e R s m args below meth c H locs 0 0 (MQ below (va_Qi (fun (r : Int32) (u : SS) => (r, u) = res) (fun u t => va_P D vwCl (wC ad cI cJ cZ u) t.heap) (aC ad)) args s 0 0 (aC ad)) (F0 m 22 ls []) := by
  obtain ⟨hx, hb, hr, hml, hown, hts, hlk⟩ := id hm
  unfold p_X7_face_22 at hf
  refine lv_bipush (v := (-101)) hx hb dX7_face_22 (by decide) ?_
  exact rt_i (wd := wC ad cI cJ cZ) hx hb hr hlk (Option.some.inj hf) hP hS dX7_face_24
def p_X7_face_41 (σ : SS) : Option (Int32 × SS) := some ((-102), σ)
set_option maxHeartbeats 4000000 in
set_option maxRecDepth 100000 in
theorem w_X7_face_41 {p : Program} {l : Launch} {e : Env} {R : Room} {s : State} {m : MethodId} {args : Array Value} {below : List Frame} {meth : Method} {c : Code} {D : va_G} {ad : Nat → Nat} {cI cJ cZ : ClassId} {res : Int32 × SS} (hm : mx p s m args meth c cX7_face 4 (some .int) wsX7_face RX7) (hR : 6 ≤ R.frames ∧ 143 ≤ R.locals) (hK : va_K D vwCl (tyw cI cJ cZ) s) (hD : ∀ σ, va_D (aC ad) (wC ad cI cJ cZ σ)) (σ : SS) (hf : p_X7_face_41 σ = some res) (H : Heap) (locs : List Loc) (ls : Array Slot) (hP : va_P D vwCl (wC ad cI cJ cZ σ) H) (hS : va_S (aC ad) s.heap H locs) (hl : lv_has ls 4 []) : W p l e R s m args below meth c H locs 0 0 (MQ below (va_Qi (fun (r : Int32) (u : SS) => (r, u) = res) (fun u t => va_P D vwCl (wC ad cI cJ cZ u) t.heap) (aC ad)) args s 0 0 (aC ad)) (F0 m 41 ls []) := by
  obtain ⟨hx, hb, hr, hml, hown, hts, hlk⟩ := id hm
  unfold p_X7_face_41 at hf
  refine lv_bipush (v := (-102)) hx hb dX7_face_41 (by decide) ?_
  exact rt_i (wd := wC ad cI cJ cZ) hx hb hr hlk (Option.some.inj hf) hP hS dX7_face_43
def p_X7_face_0 (v1 : Int32) (v2 : Int32) (σ : SS) : Option (Int32 × SS) := oc (p_X6_knows_0 σ v1) (fun r_5 => if r_5 = 0 then p_X7_face_22 σ else oc (p_X6_knows_0 σ v2) (fun r_16 => if r_16 = 0 then p_X7_face_22 σ else oc (p_X6_isFace_0 σ v2) (fun r_30 => if r_30 = 0 then p_X7_face_41 σ else if v2 < v1 then oc (p_X6_hasFace_0 σ v1 v2) (fun r_50 => if r_50 = 0 then oc (p_X6_countFaces_0 σ v1) (fun r_64 => if r_64 < 3 then oc (p_X3_forget_0 σ) (fun r_78 => oc (p_X6_addFace_0 v1 v2 r_78) (fun r_87 => oc (p_X1_tellAll_0 r_87.2) (fun r_95 => some (r_87.1, r_95)))) else some ((-104), σ)) else some ((-103), σ)) else p_X7_face_41 σ)))
set_option maxHeartbeats 4000000 in
set_option maxRecDepth 100000 in
theorem w_X7_face_0 {p : Program} {l : Launch} {e : Env} {R : Room} {s : State} {m : MethodId} {args : Array Value} {below : List Frame} {meth : Method} {c : Code} {D : va_G} {ad : Nat → Nat} {cI cJ cZ : ClassId} {res : Int32 × SS} (hm : mx p s m args meth c cX7_face 4 (some .int) wsX7_face RX7) (hR : 6 ≤ R.frames ∧ 143 ≤ R.locals) (hK : va_K D vwCl (tyw cI cJ cZ) s) (hD : ∀ σ, va_D (aC ad) (wC ad cI cJ cZ σ)) (v1 : Int32) (v2 : Int32) (σ : SS) (hf : p_X7_face_0 v1 v2 σ = some res) (H : Heap) (locs : List Loc) (ls : Array Slot) (hP : va_P D vwCl (wC ad cI cJ cZ σ) H) (hS : va_S (aC ad) s.heap H locs) (hl : lv_has ls 4 [(0, .ref (ad 0)), (1, .int v1), (2, .int v2)]) : W p l e R s m args below meth c H locs 0 0 (MQ below (va_Qi (fun (r : Int32) (u : SS) => (r, u) = res) (fun u t => va_P D vwCl (wC ad cI cJ cZ u) t.heap) (aC ad)) args s 0 0 (aC ad)) (F0 m 0 ls []) := by
  obtain ⟨hx, hb, hr, hml, hown, hts, hlk⟩ := id hm
  unfold p_X7_face_0 at hf
  refine lv_aload_n hx hb dX7_face_0 rfl (lv_at hl 0 rfl) ?_
  refine va_get (D := D) (ci := 6) (v := .ref (ad 1)) (C := RX7) (T := TX7) (N := 6) hx hb hts in_X7_face_X7 hown hK hP 0 (wC_0 _ _ _ _ _) rfl 0 (by decide) (hts (.fieldLink RX7 10 "CallGraphs" "types" "LCallGraphs$Types;") (List.mem_of_getElem? (i := 1) rfl)) (fun _ h9 => h9) (fC_0_0 _ _) dX7_face_1 ?_
  refine lv_iload_n hx hb dX7_face_4 rfl (lv_at hl 1 rfl) ?_
  obtain ⟨r_5, hg_5, hf⟩ := oc_e hf
  refine mV_ri (wd := wC ad cI cJ cZ) (σ := σ) (As := [.int v1]) (rest := []) ⟨hx, hb, hml, hown, hts⟩ hK hP hD hS (c_X6_knows l D ad cI cJ cZ σ v1 hg_5) (cwV 1 hts gX7_face_X6_knows rfl rfl rfl hd_X6_knows ⟨Nat.le_trans (Nat.le_of_ble_eq_true rfl) hR.1, Nat.le_trans (Nat.le_of_ble_eq_true rfl) hR.2⟩) rfl (wC_1 _ _ _ _ _) rfl hl.1 rfl (Nat.le_of_ble_eq_true rfl) dX7_face_5 (fun H locs hP hS => ?_)
  refine lv_if_eq (tgt := 22) hx hb dX7_face_8 (by decide) (fun c_8 => ?_) (fun c_8 => ?_)
  · rw [if_pos c_8] at hf
    exact w_X7_face_22 hm hR hK hD σ hf _ _ _ hP hS (lv_sub hl [] rfl)
  · rw [if_neg c_8] at hf
    refine lv_aload_n hx hb dX7_face_11 rfl (lv_at hl 0 rfl) ?_
    refine va_get (D := D) (ci := 6) (v := .ref (ad 1)) (C := RX7) (T := TX7) (N := 6) hx hb hts in_X7_face_X7 hown hK hP 0 (wC_0 _ _ _ _ _) rfl 0 (by decide) (hts (.fieldLink RX7 10 "CallGraphs" "types" "LCallGraphs$Types;") (List.mem_of_getElem? (i := 1) rfl)) (fun _ h9 => h9) (fC_0_0 _ _) dX7_face_12 ?_
    refine lv_iload_n hx hb dX7_face_15 rfl (lv_at hl 2 rfl) ?_
    obtain ⟨r_16, hg_16, hf⟩ := oc_e hf
    refine mV_ri (wd := wC ad cI cJ cZ) (σ := σ) (As := [.int v2]) (rest := []) ⟨hx, hb, hml, hown, hts⟩ hK hP hD hS (c_X6_knows l D ad cI cJ cZ σ v2 hg_16) (cwV 1 hts gX7_face_X6_knows rfl rfl rfl hd_X6_knows ⟨Nat.le_trans (Nat.le_of_ble_eq_true rfl) hR.1, Nat.le_trans (Nat.le_of_ble_eq_true rfl) hR.2⟩) rfl (wC_1 _ _ _ _ _) rfl hl.1 rfl (Nat.le_of_ble_eq_true rfl) dX7_face_16 (fun H locs hP hS => ?_)
    refine lv_if_ne (tgt := 25) hx hb dX7_face_19 (by decide) (fun c_19 => ?_) (fun c_19 => ?_)
    · rw [if_neg c_19] at hf
      refine lv_aload_n hx hb dX7_face_25 rfl (lv_at hl 0 rfl) ?_
      refine va_get (D := D) (ci := 6) (v := .ref (ad 1)) (C := RX7) (T := TX7) (N := 6) hx hb hts in_X7_face_X7 hown hK hP 0 (wC_0 _ _ _ _ _) rfl 0 (by decide) (hts (.fieldLink RX7 10 "CallGraphs" "types" "LCallGraphs$Types;") (List.mem_of_getElem? (i := 1) rfl)) (fun _ h9 => h9) (fC_0_0 _ _) dX7_face_26 ?_
      refine lv_iload_n hx hb dX7_face_29 rfl (lv_at hl 2 rfl) ?_
      obtain ⟨r_30, hg_30, hf⟩ := oc_e hf
      refine mV_ri (wd := wC ad cI cJ cZ) (σ := σ) (As := [.int v2]) (rest := []) ⟨hx, hb, hml, hown, hts⟩ hK hP hD hS (c_X6_isFace l D ad cI cJ cZ σ v2 hg_30) (cwV 1 hts gX7_face_X6_isFace rfl rfl rfl hd_X6_isFace ⟨Nat.le_trans (Nat.le_of_ble_eq_true rfl) hR.1, Nat.le_trans (Nat.le_of_ble_eq_true rfl) hR.2⟩) rfl (wC_1 _ _ _ _ _) rfl hl.1 rfl (Nat.le_of_ble_eq_true rfl) dX7_face_30 (fun H locs hP hS => ?_)
      refine lv_if_eq (tgt := 41) hx hb dX7_face_33 (by decide) (fun c_33 => ?_) (fun c_33 => ?_)
      · rw [if_pos c_33] at hf
        exact w_X7_face_41 hm hR hK hD σ hf _ _ _ hP hS (lv_sub hl [] rfl)
      · rw [if_neg c_33] at hf
        refine lv_iload_n hx hb dX7_face_36 rfl (lv_at hl 2 rfl) ?_
        refine lv_iload_n hx hb dX7_face_37 rfl (lv_at hl 1 rfl) ?_
        refine lv_icmp_lt (tgt := 44) hx hb dX7_face_38 (by decide) (fun c_38 => ?_) (fun c_38 => ?_)
        · rw [if_pos c_38] at hf
          refine lv_aload_n hx hb dX7_face_44 rfl (lv_at hl 0 rfl) ?_
          refine va_get (D := D) (ci := 6) (v := .ref (ad 1)) (C := RX7) (T := TX7) (N := 6) hx hb hts in_X7_face_X7 hown hK hP 0 (wC_0 _ _ _ _ _) rfl 0 (by decide) (hts (.fieldLink RX7 10 "CallGraphs" "types" "LCallGraphs$Types;") (List.mem_of_getElem? (i := 1) rfl)) (fun _ h9 => h9) (fC_0_0 _ _) dX7_face_45 ?_
          refine lv_iload_n hx hb dX7_face_48 rfl (lv_at hl 1 rfl) ?_
          refine lv_iload_n hx hb dX7_face_49 rfl (lv_at hl 2 rfl) ?_
          obtain ⟨r_50, hg_50, hf⟩ := oc_e hf
          refine mV_ri (wd := wC ad cI cJ cZ) (σ := σ) (As := [.int v1, .int v2]) (rest := []) ⟨hx, hb, hml, hown, hts⟩ hK hP hD hS (c_X6_hasFace l D ad cI cJ cZ σ v1 v2 hg_50) (cwV 2 hts gX7_face_X6_hasFace rfl rfl rfl hd_X6_hasFace ⟨Nat.le_trans (Nat.le_of_ble_eq_true rfl) hR.1, Nat.le_trans (Nat.le_of_ble_eq_true rfl) hR.2⟩) rfl (wC_1 _ _ _ _ _) rfl hl.1 rfl (Nat.le_of_ble_eq_true rfl) dX7_face_50 (fun H locs hP hS => ?_)
          refine lv_if_eq (tgt := 59) hx hb dX7_face_53 (by decide) (fun c_53 => ?_) (fun c_53 => ?_)
          · rw [if_pos c_53] at hf
            refine lv_aload_n hx hb dX7_face_59 rfl (lv_at hl 0 rfl) ?_
            refine va_get (D := D) (ci := 6) (v := .ref (ad 1)) (C := RX7) (T := TX7) (N := 6) hx hb hts in_X7_face_X7 hown hK hP 0 (wC_0 _ _ _ _ _) rfl 0 (by decide) (hts (.fieldLink RX7 10 "CallGraphs" "types" "LCallGraphs$Types;") (List.mem_of_getElem? (i := 1) rfl)) (fun _ h9 => h9) (fC_0_0 _ _) dX7_face_60 ?_
            refine lv_iload_n hx hb dX7_face_63 rfl (lv_at hl 1 rfl) ?_
            obtain ⟨r_64, hg_64, hf⟩ := oc_e hf
            refine mV_ri (wd := wC ad cI cJ cZ) (σ := σ) (As := [.int v1]) (rest := []) ⟨hx, hb, hml, hown, hts⟩ hK hP hD hS (c_X6_countFaces l D ad cI cJ cZ σ v1 hg_64) (cwV 1 hts gX7_face_X6_countFaces rfl rfl rfl hd_X6_countFaces ⟨Nat.le_trans (Nat.le_of_ble_eq_true rfl) hR.1, Nat.le_trans (Nat.le_of_ble_eq_true rfl) hR.2⟩) rfl (wC_1 _ _ _ _ _) rfl hl.1 rfl (Nat.le_of_ble_eq_true rfl) dX7_face_64 (fun H locs hP hS => ?_)
            refine lv_iconst (v := 3) hx hb dX7_face_67 (by decide) ?_
            refine lv_icmp_lt (tgt := 74) hx hb dX7_face_68 (by decide) (fun c_68 => ?_) (fun c_68 => ?_)
            · rw [if_pos c_68] at hf
              refine lv_aload_n hx hb dX7_face_74 rfl (lv_at hl 0 rfl) ?_
              refine va_get (D := D) (ci := 6) (v := .ref (ad 5)) (C := RX7) (T := TX7) (N := 6) hx hb hts in_X7_face_X7 hown hK hP 0 (wC_0 _ _ _ _ _) rfl 4 (by decide) (hts (.fieldLink RX7 46 "CallGraphs" "graph" "LCallGraphs$Graph;") (List.mem_of_getElem? (i := 2) rfl)) (fun _ h9 => h9) (fC_0_4 _ _) dX7_face_75 ?_
              obtain ⟨r_78, hg_78, hf⟩ := oc_e hf
              refine mV_wv (wd := wC ad cI cJ cZ) (σ := σ) (As := []) (rest := []) ⟨hx, hb, hml, hown, hts⟩ hK hP hD hS (c_X3_forget l D ad cI cJ cZ σ hg_78) (cwV 0 hts gX7_face_X3_forget rfl rfl rfl hd_X3_forget ⟨Nat.le_trans (Nat.le_of_ble_eq_true rfl) hR.1, Nat.le_trans (Nat.le_of_ble_eq_true rfl) hR.2⟩) rfl (wC_5 _ _ _ _ _) rfl hl.1 rfl (Nat.le_of_ble_eq_true rfl) dX7_face_78 (fun H locs hP hS => ?_)
              refine lv_aload_n hx hb dX7_face_81 rfl (lv_at hl 0 rfl) ?_
              refine va_get (D := D) (ci := 6) (v := .ref (ad 1)) (C := RX7) (T := TX7) (N := 6) hx hb hts in_X7_face_X7 hown hK hP 0 (wC_0 _ _ _ _ _) rfl 0 (by decide) (hts (.fieldLink RX7 10 "CallGraphs" "types" "LCallGraphs$Types;") (List.mem_of_getElem? (i := 1) rfl)) (fun _ h9 => h9) (fC_0_0 _ _) dX7_face_82 ?_
              refine lv_iload_n hx hb dX7_face_85 rfl (lv_at hl 1 rfl) ?_
              refine lv_iload_n hx hb dX7_face_86 rfl (lv_at hl 2 rfl) ?_
              obtain ⟨r_87, hg_87, hf⟩ := oc_e hf
              refine mV_wi (wd := wC ad cI cJ cZ) (σ := r_78) (As := [.int v1, .int v2]) (rest := []) ⟨hx, hb, hml, hown, hts⟩ hK hP hD hS (c_X6_addFace l D ad cI cJ cZ r_78 v1 v2 hg_87) (cwV 2 hts gX7_face_X6_addFace rfl rfl rfl hd_X6_addFace ⟨Nat.le_trans (Nat.le_of_ble_eq_true rfl) hR.1, Nat.le_trans (Nat.le_of_ble_eq_true rfl) hR.2⟩) rfl (wC_1 _ _ _ _ _) rfl hl.1 rfl (Nat.le_of_ble_eq_true rfl) dX7_face_87 (fun H locs hP hS => ?_)
              refine lv_istore_n (lv' := [(3, .int r_87.1), (0, .ref (ad 0)), (1, .int v1), (2, .int v2)]) hx hb dX7_face_90 rfl hl (by decide) rfl (fun ls hl => ?_)
              refine lv_aload_n hx hb dX7_face_91 rfl (lv_at hl 1 rfl) ?_
              refine va_get (D := D) (ci := 6) (v := .ref (ad 3)) (C := RX7) (T := TX7) (N := 6) hx hb hts in_X7_face_X7 hown hK hP 0 (wC_0 _ _ _ _ _) rfl 2 (by decide) (hts (.fieldLink RX7 30 "CallGraphs" "choices" "LCallGraphs$Choices;") (List.mem_of_getElem? (i := 3) rfl)) (fun _ h9 => h9) (fC_0_2 _ _) dX7_face_92 ?_
              obtain ⟨r_95, hg_95, hf⟩ := oc_e hf
              refine mV_wv (wd := wC ad cI cJ cZ) (σ := r_87.2) (As := []) (rest := []) ⟨hx, hb, hml, hown, hts⟩ hK hP hD hS (c_X1_tellAll l D ad cI cJ cZ r_87.2 hg_95) (cwV 0 hts gX7_face_X1_tellAll rfl rfl rfl hd_X1_tellAll ⟨Nat.le_trans (Nat.le_of_ble_eq_true rfl) hR.1, Nat.le_trans (Nat.le_of_ble_eq_true rfl) hR.2⟩) rfl (wC_3 _ _ _ _ _) rfl hl.1 rfl (Nat.le_of_ble_eq_true rfl) dX7_face_95 (fun H locs hP hS => ?_)
              refine lv_iload_n hx hb dX7_face_98 rfl (lv_at hl 0 rfl) ?_
              exact rt_i (wd := wC ad cI cJ cZ) hx hb hr hlk (Option.some.inj hf) hP hS dX7_face_99
            · rw [if_neg c_68] at hf
              refine lv_bipush (v := (-104)) hx hb dX7_face_71 (by decide) ?_
              exact rt_i (wd := wC ad cI cJ cZ) hx hb hr hlk (Option.some.inj hf) hP hS dX7_face_73
          · rw [if_neg c_53] at hf
            refine lv_bipush (v := (-103)) hx hb dX7_face_56 (by decide) ?_
            exact rt_i (wd := wC ad cI cJ cZ) hx hb hr hlk (Option.some.inj hf) hP hS dX7_face_58
        · rw [if_neg c_38] at hf
          exact w_X7_face_41 hm hR hK hD σ hf _ _ _ hP hS (lv_sub hl [] rfl)
    · rw [if_pos c_19] at hf
      exact w_X7_face_22 hm hR hK hD σ hf _ _ _ hP hS (lv_sub hl [] rfl)
theorem hd_X7_face : yX7_face.cls = RX7 ∧ yX7_face.cls ≠ "java/lang/invoke/MethodHandle" ∧ yX7_face.cls ≠ "java/lang/invoke/VarHandle" ∧ (parseMethodDescriptor yX7_face.desc).map (fun d => d.parameters.length) = some 2 := by decide +kernel
set_option maxHeartbeats 4000000 in
set_option maxRecDepth 100000 in
theorem c_X7_face (l : Launch) (D : va_G) (ad : Nat → Nat) (cI cJ cZ : ClassId) (σ : SS) (v1 : Int32) (v2 : Int32) {res : Int32 × SS} (hf : p_X7_face_0 v1 v2 σ = some res) : Met l yX7_face wsX7_face ({ frames := 6, cells := 0, slots := 0, locals := 143 } : Room) (PW D (tyw cI cJ cZ) (wC ad cI cJ cZ σ) [.ref (ad 0), .int v1, .int v2]) (va_Qi (fun (r : Int32) (u : SS) => (r, u) = res) (fun u t => va_P D vwCl (wC ad cI cJ cZ u) t.heap) (aC ad)) 0 0 (aC ad) := by
  refine Met.ofW (cc := cX7_face) (maxL := 4) (ret := (some .int)) (by decide) rfl ?_
  intro p e s m args below meth c s₁ B hml hv
  obtain ⟨rfl, hP, hK, hD0⟩ := hv
  have hD : ∀ σ, va_D (aC ad) (wC ad cI cJ cZ σ) := fun σ => wd_D hD0 (wC_map _ _ _ _ _) (wC_map _ _ _ _ _)
  have hm : mx p s m _ meth c cX7_face 4 (some .int) wsX7_face RX7 := ⟨B.exec, B.bytes, B.returns, hml, findClass_of_methodNamed B.named, atoms_spec (ws := wsX7_face) B.pre, B.notSynchronized⟩
  have hl := lv_entry ([.ref (ad 0), .int v1, .int v2]) (n := 4) (Nat.le_of_ble_eq_true rfl)
  rw [lg_entry_eq]
  generalize (lg_sl ([.ref (ad 0), .int v1, .int v2]) ++ List.replicate (4 - (lg_sl ([.ref (ad 0), .int v1, .int v2])).length) Slot.unset).toArray = ls at hl ⊢
  exact w_X7_face_0 hm ⟨Nat.le_refl _, Nat.le_refl _⟩ hK hD v1 v2 σ hf _ _ _ hP va_S.rf hl
/-! CallGraphs.isName(I)Z -/

def p_X7_isName_15 (t0 : Int32) : Option (Int32) := ob t0 (some t0)
set_option maxHeartbeats 4000000 in
set_option maxRecDepth 100000 in
theorem w_X7_isName_15 {p : Program} {l : Launch} {e : Env} {R : Room} {s : State} {m : MethodId} {args : Array Value} {below : List Frame} {meth : Method} {c : Code} {res : Int32} (hm : mx p s m args meth c cX7_isName 1 (some .boolean) wsX7_isName RX7) (hR : 0 ≤ R.frames ∧ 0 ≤ R.locals) (t0 : Int32) (hf : p_X7_isName_15 t0 = some res) (H : Heap) (locs : List Loc) (ls : Array Slot) (hS : va_S (fun _ => False) s.heap H locs) (hl : lv_has ls 1 []) : W p l e R s m args below meth c H locs 0 0 (MQ below (va_Qi (fun (r : Int32) (_ : Unit) => r = res) (fun _ _ => True) (fun _ => False)) args s 0 0 (fun _ => False)) (F0 m 15 ls [.int t0]) := by
  obtain ⟨hx, hb, hr, hml, hown, hts, hlk⟩ := id hm
  unfold p_X7_isName_15 at hf
  obtain ⟨h_15, hf⟩ := ob_e hf
  exact rs_z hx hb hr hlk h_15 (Option.some.inj hf) hS dX7_isName_15
def p_X7_isName_14 : Option (Int32) := p_X7_isName_15 0
set_option maxHeartbeats 4000000 in
set_option maxRecDepth 100000 in
theorem w_X7_isName_14 {p : Program} {l : Launch} {e : Env} {R : Room} {s : State} {m : MethodId} {args : Array Value} {below : List Frame} {meth : Method} {c : Code} {res : Int32} (hm : mx p s m args meth c cX7_isName 1 (some .boolean) wsX7_isName RX7) (hR : 0 ≤ R.frames ∧ 0 ≤ R.locals) (hf : p_X7_isName_14 = some res) (H : Heap) (locs : List Loc) (ls : Array Slot) (hS : va_S (fun _ => False) s.heap H locs) (hl : lv_has ls 1 []) : W p l e R s m args below meth c H locs 0 0 (MQ below (va_Qi (fun (r : Int32) (_ : Unit) => r = res) (fun _ _ => True) (fun _ => False)) args s 0 0 (fun _ => False)) (F0 m 14 ls []) := by
  obtain ⟨hx, hb, hr, hml, hown, hts, hlk⟩ := id hm
  unfold p_X7_isName_14 at hf
  refine lv_iconst (v := 0) hx hb dX7_isName_14 (by decide) ?_
  exact w_X7_isName_15 hm hR 0 hf _ _ _ hS (lv_sub hl [] rfl)
def p_X7_isName_0 (v0 : Int32) : Option (Int32) := if v0 < 0 then p_X7_isName_14 else if 10 ≤ v0 then p_X7_isName_14 else p_X7_isName_15 1
set_option maxHeartbeats 4000000 in
set_option maxRecDepth 100000 in
theorem w_X7_isName_0 {p : Program} {l : Launch} {e : Env} {R : Room} {s : State} {m : MethodId} {args : Array Value} {below : List Frame} {meth : Method} {c : Code} {res : Int32} (hm : mx p s m args meth c cX7_isName 1 (some .boolean) wsX7_isName RX7) (hR : 0 ≤ R.frames ∧ 0 ≤ R.locals) (v0 : Int32) (hf : p_X7_isName_0 v0 = some res) (H : Heap) (locs : List Loc) (ls : Array Slot) (hS : va_S (fun _ => False) s.heap H locs) (hl : lv_has ls 1 [(0, .int v0)]) : W p l e R s m args below meth c H locs 0 0 (MQ below (va_Qi (fun (r : Int32) (_ : Unit) => r = res) (fun _ _ => True) (fun _ => False)) args s 0 0 (fun _ => False)) (F0 m 0 ls []) := by
  obtain ⟨hx, hb, hr, hml, hown, hts, hlk⟩ := id hm
  unfold p_X7_isName_0 at hf
  refine lv_iload_n hx hb dX7_isName_0 rfl (lv_at hl 0 rfl) ?_
  refine lv_if_lt (tgt := 14) hx hb dX7_isName_1 (by decide) (fun c_1 => ?_) (fun c_1 => ?_)
  · rw [if_pos c_1] at hf
    exact w_X7_isName_14 hm hR hf _ _ _ hS (lv_sub hl [] rfl)
  · rw [if_neg c_1] at hf
    refine lv_iload_n hx hb dX7_isName_4 rfl (lv_at hl 0 rfl) ?_
    refine lv_bipush (v := 10) hx hb dX7_isName_5 (by decide) ?_
    refine lv_icmp_ge (tgt := 14) hx hb dX7_isName_7 (by decide) (fun c_7 => ?_) (fun c_7 => ?_)
    · rw [if_pos c_7] at hf
      exact w_X7_isName_14 hm hR hf _ _ _ hS (lv_sub hl [] rfl)
    · rw [if_neg c_7] at hf
      refine lv_iconst (v := 1) hx hb dX7_isName_10 (by decide) ?_
      refine lv_goto (tgt := 15) hx hb dX7_isName_11 (by decide) ?_
      exact w_X7_isName_15 hm hR 1 hf _ _ _ hS (lv_sub hl [] rfl)
theorem hd_X7_isName : yX7_isName.cls ≠ "java/lang/invoke/MethodHandle" ∧ yX7_isName.cls ≠ "java/lang/invoke/VarHandle" ∧ (parseMethodDescriptor yX7_isName.desc).map (fun d => d.parameters.length) = some 1 := by decide +kernel
set_option maxHeartbeats 4000000 in
set_option maxRecDepth 100000 in
theorem c_X7_isName (l : Launch) (v0 : Int32) {res : Int32} (hf : p_X7_isName_0 v0 = some res) : Met l yX7_isName wsX7_isName ({ frames := 0, cells := 0, slots := 0, locals := 0 } : Room) (va_Pc [.int v0] (fun _ => True)) (va_Qi (fun (r : Int32) (_ : Unit) => r = res) (fun _ _ => True) (fun _ => False)) 0 0 (fun _ => False) := by
  refine Met.ofW (cc := cX7_isName) (maxL := 1) (ret := (some .boolean)) (by decide) rfl ?_
  intro p e s m args below meth c s₁ B hml hv
  obtain ⟨rfl, -⟩ := hv
  have hm : mx p s m _ meth c cX7_isName 1 (some .boolean) wsX7_isName RX7 := ⟨B.exec, B.bytes, B.returns, hml, findClass_of_methodNamed B.named, atoms_spec (ws := wsX7_isName) B.pre, B.notSynchronized⟩
  have hl := lv_entry ([.int v0]) (n := 1) (Nat.le_of_ble_eq_true rfl)
  rw [lg_entry_eq]
  generalize (lg_sl ([.int v0]) ++ List.replicate (1 - (lg_sl ([.int v0])).length) Slot.unset).toArray = ls at hl ⊢
  exact w_X7_isName_0 hm ⟨Nat.le_refl _, Nat.le_refl _⟩ v0 hf _ _ _ va_S.rf hl
/-! CallGraphs.member(III)I -/
theorem in_X7_member_X7 : ∀ w ∈ u_ws RX7 TX7 6, w ∈ wsX7_member := fun w h => List.mem_cons_of_mem _ (List.mem_append_left _ (List.mem_append_left _ (List.mem_append_left _ (List.mem_append_left _ (List.mem_append_right _ h)))))
def p_X7_member_23 (σ : SS) : Option (Int32 × SS) := some ((-102), σ)
set_option maxHeartbeats 4000000 in
set_option maxRecDepth 100000 in
theorem w_X7_member_23 {p : Program} {l : Launch} {e : Env} {R : Room} {s : State} {m : MethodId} {args : Array Value} {below : List Frame} {meth : Method} {c : Code} {D : va_G} {ad : Nat → Nat} {cI cJ cZ : ClassId} {res : Int32 × SS} (hm : mx p s m args meth c cX7_member 6 (some .int) wsX7_member RX7) (hR : 5 ≤ R.frames ∧ 122 ≤ R.locals) (hK : va_K D vwCl (tyw cI cJ cZ) s) (hD : ∀ σ, va_D (aC ad) (wC ad cI cJ cZ σ)) (σ : SS) (hf : p_X7_member_23 σ = some res) (H : Heap) (locs : List Loc) (ls : Array Slot) (hP : va_P D vwCl (wC ad cI cJ cZ σ) H) (hS : va_S (aC ad) s.heap H locs) (hl : lv_has ls 6 []) : W p l e R s m args below meth c H locs 0 0 (MQ below (va_Qi (fun (r : Int32) (u : SS) => (r, u) = res) (fun u t => va_P D vwCl (wC ad cI cJ cZ u) t.heap) (aC ad)) args s 0 0 (aC ad)) (F0 m 23 ls []) := by
  obtain ⟨hx, hb, hr, hml, hown, hts, hlk⟩ := id hm
  unfold p_X7_member_23 at hf
  refine lv_bipush (v := (-102)) hx hb dX7_member_23 (by decide) ?_
  exact rt_i (wd := wC ad cI cJ cZ) hx hb hr hlk (Option.some.inj hf) hP hS dX7_member_25
def p_X7_member_143 (v5 : Int32) (σ : SS) : Option (Int32 × SS) := some (v5, σ)
set_option maxHeartbeats 4000000 in
set_option maxRecDepth 100000 in
theorem w_X7_member_143 {p : Program} {l : Launch} {e : Env} {R : Room} {s : State} {m : MethodId} {args : Array Value} {below : List Frame} {meth : Method} {c : Code} {D : va_G} {ad : Nat → Nat} {cI cJ cZ : ClassId} {res : Int32 × SS} (hm : mx p s m args meth c cX7_member 6 (some .int) wsX7_member RX7) (hR : 5 ≤ R.frames ∧ 122 ≤ R.locals) (hK : va_K D vwCl (tyw cI cJ cZ) s) (hD : ∀ σ, va_D (aC ad) (wC ad cI cJ cZ σ)) (v5 : Int32) (σ : SS) (hf : p_X7_member_143 v5 σ = some res) (H : Heap) (locs : List Loc) (ls : Array Slot) (hP : va_P D vwCl (wC ad cI cJ cZ σ) H) (hS : va_S (aC ad) s.heap H locs) (hl : lv_has ls 6 [(5, .int v5)]) : W p l e R s m args below meth c H locs 0 0 (MQ below (va_Qi (fun (r : Int32) (u : SS) => (r, u) = res) (fun u t => va_P D vwCl (wC ad cI cJ cZ u) t.heap) (aC ad)) args s 0 0 (aC ad)) (F0 m 143 ls []) := by
  obtain ⟨hx, hb, hr, hml, hown, hts, hlk⟩ := id hm
  unfold p_X7_member_143 at hf
  refine lv_iload hx hb dX7_member_143 (lv_at hl 0 rfl) ?_
  exact rt_i (wd := wC ad cI cJ cZ) hx hb hr hlk (Option.some.inj hf) hP hS dX7_member_145
def p_X7_member_85 (v1 : Int32) (v2 : Int32) (v3 : Int32) (t0 : Int32) (σ : SS) : Option (Int32 × SS) := if t0 = (-1) then oc (p_X4_size_0 σ) (fun r_100 => if r_100 < 48 then oc (p_X3_forget_0 σ) (fun r_115 => oc (p_X4_add_0 v1 v2 v3 r_115) (fun r_125 => if v3 = 4 then p_X7_member_143 r_125.1 r_125.2 else oc (p_X1_tell_0 v2 r_125.2) (fun r_140 => p_X7_member_143 r_125.1 r_140))) else some ((-104), σ)) else some ((-103), σ)
set_option maxHeartbeats 4000000 in
set_option maxRecDepth 100000 in
theorem w_X7_member_85 {p : Program} {l : Launch} {e : Env} {R : Room} {s : State} {m : MethodId} {args : Array Value} {below : List Frame} {meth : Method} {c : Code} {D : va_G} {ad : Nat → Nat} {cI cJ cZ : ClassId} {res : Int32 × SS} (hm : mx p s m args meth c cX7_member 6 (some .int) wsX7_member RX7) (hR : 5 ≤ R.frames ∧ 122 ≤ R.locals) (hK : va_K D vwCl (tyw cI cJ cZ) s) (hD : ∀ σ, va_D (aC ad) (wC ad cI cJ cZ σ)) (v1 : Int32) (v2 : Int32) (v3 : Int32) (t0 : Int32) (σ : SS) (hf : p_X7_member_85 v1 v2 v3 t0 σ = some res) (H : Heap) (locs : List Loc) (ls : Array Slot) (hP : va_P D vwCl (wC ad cI cJ cZ σ) H) (hS : va_S (aC ad) s.heap H locs) (hl : lv_has ls 6 [(0, .ref (ad 0)), (1, .int v1), (2, .int v2), (3, .int v3)]) : W p l e R s m args below meth c H locs 0 0 (MQ below (va_Qi (fun (r : Int32) (u : SS) => (r, u) = res) (fun u t => va_P D vwCl (wC ad cI cJ cZ u) t.heap) (aC ad)) args s 0 0 (aC ad)) (F0 m 85 ls [.int t0]) := by
  obtain ⟨hx, hb, hr, hml, hown, hts, hlk⟩ := id hm
  unfold p_X7_member_85 at hf
  refine lv_istore (lv' := [(4, .int t0), (0, .ref (ad 0)), (1, .int v1), (2, .int v2), (3, .int v3)]) hx hb dX7_member_85 hl (by decide) rfl (fun ls hl => ?_)
  refine lv_iload hx hb dX7_member_87 (lv_at hl 0 rfl) ?_
  refine lv_iconst (v := (-1)) hx hb dX7_member_89 (by decide) ?_
  refine lv_icmp_eq (tgt := 96) hx hb dX7_member_90 (by decide) (fun c_90 => ?_) (fun c_90 => ?_)
  · rw [if_pos c_90] at hf
    refine lv_aload_n hx hb dX7_member_96 rfl (lv_at hl 1 rfl) ?_
    refine va_get (D := D) (ci := 6) (v := .ref (ad 2)) (C := RX7) (T := TX7) (N := 6) hx hb hts in_X7_member_X7 hown hK hP 0 (wC_0 _ _ _ _ _) rfl 1 (by decide) (hts (.fieldLink RX7 21 "CallGraphs" "members" "LCallGraphs$Members;") (List.mem_of_getElem? (i := 2) rfl)) (fun _ h9 => h9) (fC_0_1 _ _) dX7_member_97 ?_
    obtain ⟨r_100, hg_100, hf⟩ := oc_e hf
    refine mV_ri (wd := wC ad cI cJ cZ) (σ := σ) (As := []) (rest := []) ⟨hx, hb, hml, hown, hts⟩ hK hP hD hS (c_X4_size l D ad cI cJ cZ σ hg_100) (cwV 0 hts gX7_member_X4_size rfl rfl rfl hd_X4_size ⟨Nat.le_trans (Nat.le_of_ble_eq_true rfl) hR.1, Nat.le_trans (Nat.le_of_ble_eq_true rfl) hR.2⟩) rfl (wC_2 _ _ _ _ _) rfl hl.1 rfl (Nat.le_of_ble_eq_true rfl) dX7_member_100 (fun H locs hP hS => ?_)
    refine lv_bipush (v := 48) hx hb dX7_member_103 (by decide) ?_
    refine lv_icmp_lt (tgt := 111) hx hb dX7_member_105 (by decide) (fun c_105 => ?_) (fun c_105 => ?_)
    · rw [if_pos c_105] at hf
      refine lv_aload_n hx hb dX7_member_111 rfl (lv_at hl 1 rfl) ?_
      refine va_get (D := D) (ci := 6) (v := .ref (ad 5)) (C := RX7) (T := TX7) (N := 6) hx hb hts in_X7_member_X7 hown hK hP 0 (wC_0 _ _ _ _ _) rfl 4 (by decide) (hts (.fieldLink RX7 46 "CallGraphs" "graph" "LCallGraphs$Graph;") (List.mem_of_getElem? (i := 3) rfl)) (fun _ h9 => h9) (fC_0_4 _ _) dX7_member_112 ?_
      obtain ⟨r_115, hg_115, hf⟩ := oc_e hf
      refine mV_wv (wd := wC ad cI cJ cZ) (σ := σ) (As := []) (rest := []) ⟨hx, hb, hml, hown, hts⟩ hK hP hD hS (c_X3_forget l D ad cI cJ cZ σ hg_115) (cwV 0 hts gX7_member_X3_forget rfl rfl rfl hd_X3_forget ⟨Nat.le_trans (Nat.le_of_ble_eq_true rfl) hR.1, Nat.le_trans (Nat.le_of_ble_eq_true rfl) hR.2⟩) rfl (wC_5 _ _ _ _ _) rfl hl.1 rfl (Nat.le_of_ble_eq_true rfl) dX7_member_115 (fun H locs hP hS => ?_)
      refine lv_aload_n hx hb dX7_member_118 rfl (lv_at hl 1 rfl) ?_
      refine va_get (D := D) (ci := 6) (v := .ref (ad 2)) (C := RX7) (T := TX7) (N := 6) hx hb hts in_X7_member_X7 hown hK hP 0 (wC_0 _ _ _ _ _) rfl 1 (by decide) (hts (.fieldLink RX7 21 "CallGraphs" "members" "LCallGraphs$Members;") (List.mem_of_getElem? (i := 2) rfl)) (fun _ h9 => h9) (fC_0_1 _ _) dX7_member_119 ?_
      refine lv_iload_n hx hb dX7_member_122 rfl (lv_at hl 2 rfl) ?_
      refine lv_iload_n hx hb dX7_member_123 rfl (lv_at hl 3 rfl) ?_
      refine lv_iload_n hx hb dX7_member_124 rfl (lv_at hl 4 rfl) ?_
      obtain ⟨r_125, hg_125, hf⟩ := oc_e hf
      refine mV_wi (wd := wC ad cI cJ cZ) (σ := r_115) (As := [.int v1, .int v2, .int v3]) (rest := []) ⟨hx, hb, hml, hown, hts⟩ hK hP hD hS (c_X4_add l D ad cI cJ cZ r_115 v1 v2 v3 hg_125) (cwV 3 hts gX7_member_X4_add rfl rfl rfl hd_X4_add ⟨Nat.le_trans (Nat.le_of_ble_eq_true rfl) hR.1, Nat.le_trans (Nat.le_of_ble_eq_true rfl) hR.2⟩) rfl (wC_2 _ _ _ _ _) rfl hl.1 rfl (Nat.le_of_ble_eq_true rfl) dX7_member_125 (fun H locs hP hS => ?_)
      refine lv_istore (lv' := [(5, .int r_125.1), (4, .int t0), (0, .ref (ad 0)), (1, .int v1), (2, .int v2), (3, .int v3)]) hx hb dX7_member_128 hl (by decide) rfl (fun ls hl => ?_)
      refine lv_iload_n hx hb dX7_member_130 rfl (lv_at hl 5 rfl) ?_
      refine lv_iconst (v := 4) hx hb dX7_member_131 (by decide) ?_
      refine lv_icmp_eq (tgt := 143) hx hb dX7_member_132 (by decide) (fun c_132 => ?_) (fun c_132 => ?_)
      · rw [if_pos c_132] at hf
        exact w_X7_member_143 hm hR hK hD r_125.1 r_125.2 hf _ _ _ hP hS (lv_sub hl [0] rfl)
      · rw [if_neg c_132] at hf
        refine lv_aload_n hx hb dX7_member_135 rfl (lv_at hl 2 rfl) ?_
        refine va_get (D := D) (ci := 6) (v := .ref (ad 3)) (C := RX7) (T := TX7) (N := 6) hx hb hts in_X7_member_X7 hown hK hP 0 (wC_0 _ _ _ _ _) rfl 2 (by decide) (hts (.fieldLink RX7 30 "CallGraphs" "choices" "LCallGraphs$Choices;") (List.mem_of_getElem? (i := 4) rfl)) (fun _ h9 => h9) (fC_0_2 _ _) dX7_member_136 ?_
        refine lv_iload_n hx hb dX7_member_139 rfl (lv_at hl 4 rfl) ?_
        obtain ⟨r_140, hg_140, hf⟩ := oc_e hf
        refine mV_wv (wd := wC ad cI cJ cZ) (σ := r_125.2) (As := [.int v2]) (rest := []) ⟨hx, hb, hml, hown, hts⟩ hK hP hD hS (c_X1_tell l D ad cI cJ cZ r_125.2 v2 hg_140) (cwV 1 hts gX7_member_X1_tell rfl rfl rfl hd_X1_tell ⟨Nat.le_trans (Nat.le_of_ble_eq_true rfl) hR.1, Nat.le_trans (Nat.le_of_ble_eq_true rfl) hR.2⟩) rfl (wC_3 _ _ _ _ _) rfl hl.1 rfl (Nat.le_of_ble_eq_true rfl) dX7_member_140 (fun H locs hP hS => ?_)
        exact w_X7_member_143 hm hR hK hD r_125.1 r_140 hf _ _ _ hP hS (lv_sub hl [0] rfl)
    · rw [if_neg c_105] at hf
      refine lv_bipush (v := (-104)) hx hb dX7_member_108 (by decide) ?_
      exact rt_i (wd := wC ad cI cJ cZ) hx hb hr hlk (Option.some.inj hf) hP hS dX7_member_110
  · rw [if_neg c_90] at hf
    refine lv_bipush (v := (-103)) hx hb dX7_member_93 (by decide) ?_
    exact rt_i (wd := wC ad cI cJ cZ) hx hb hr hlk (Option.some.inj hf) hP hS dX7_member_95
def p_X7_member_60 (v1 : Int32) (v2 : Int32) (v3 : Int32) (σ : SS) : Option (Int32 × SS) := if v3 = 4 then oc (p_X4_startOf_0 σ v1) (fun r_70 => p_X7_member_85 v1 v2 v3 r_70 σ) else oc (p_X4_named_0 σ v1 v2) (fun r_82 => p_X7_member_85 v1 v2 v3 r_82 σ)
set_option maxHeartbeats 4000000 in
set_option maxRecDepth 100000 in
theorem w_X7_member_60 {p : Program} {l : Launch} {e : Env} {R : Room} {s : State} {m : MethodId} {args : Array Value} {below : List Frame} {meth : Method} {c : Code} {D : va_G} {ad : Nat → Nat} {cI cJ cZ : ClassId} {res : Int32 × SS} (hm : mx p s m args meth c cX7_member 6 (some .int) wsX7_member RX7) (hR : 5 ≤ R.frames ∧ 122 ≤ R.locals) (hK : va_K D vwCl (tyw cI cJ cZ) s) (hD : ∀ σ, va_D (aC ad) (wC ad cI cJ cZ σ)) (v1 : Int32) (v2 : Int32) (v3 : Int32) (σ : SS) (hf : p_X7_member_60 v1 v2 v3 σ = some res) (H : Heap) (locs : List Loc) (ls : Array Slot) (hP : va_P D vwCl (wC ad cI cJ cZ σ) H) (hS : va_S (aC ad) s.heap H locs) (hl : lv_has ls 6 [(0, .ref (ad 0)), (1, .int v1), (2, .int v2), (3, .int v3)]) : W p l e R s m args below meth c H locs 0 0 (MQ below (va_Qi (fun (r : Int32) (u : SS) => (r, u) = res) (fun u t => va_P D vwCl (wC ad cI cJ cZ u) t.heap) (aC ad)) args s 0 0 (aC ad)) (F0 m 60 ls []) := by
  obtain ⟨hx, hb, hr, hml, hown, hts, hlk⟩ := id hm
  unfold p_X7_member_60 at hf
  refine lv_iload_n hx hb dX7_member_60 rfl (lv_at hl 3 rfl) ?_
  refine lv_iconst (v := 4) hx hb dX7_member_61 (by decide) ?_
  refine lv_icmp_ne (tgt := 76) hx hb dX7_member_62 (by decide) (fun c_62 => ?_) (fun c_62 => ?_)
  · rw [if_neg c_62] at hf
    refine lv_aload_n hx hb dX7_member_76 rfl (lv_at hl 0 rfl) ?_
    refine va_get (D := D) (ci := 6) (v := .ref (ad 2)) (C := RX7) (T := TX7) (N := 6) hx hb hts in_X7_member_X7 hown hK hP 0 (wC_0 _ _ _ _ _) rfl 1 (by decide) (hts (.fieldLink RX7 21 "CallGraphs" "members" "LCallGraphs$Members;") (List.mem_of_getElem? (i := 2) rfl)) (fun _ h9 => h9) (fC_0_1 _ _) dX7_member_77 ?_
    refine lv_iload_n hx hb dX7_member_80 rfl (lv_at hl 1 rfl) ?_
    refine lv_iload_n hx hb dX7_member_81 rfl (lv_at hl 2 rfl) ?_
    obtain ⟨r_82, hg_82, hf⟩ := oc_e hf
    refine mV_ri (wd := wC ad cI cJ cZ) (σ := σ) (As := [.int v1, .int v2]) (rest := []) ⟨hx, hb, hml, hown, hts⟩ hK hP hD hS (c_X4_named l D ad cI cJ cZ σ v1 v2 hg_82) (cwV 2 hts gX7_member_X4_named rfl rfl rfl hd_X4_named ⟨Nat.le_trans (Nat.le_of_ble_eq_true rfl) hR.1, Nat.le_trans (Nat.le_of_ble_eq_true rfl) hR.2⟩) rfl (wC_2 _ _ _ _ _) rfl hl.1 rfl (Nat.le_of_ble_eq_true rfl) dX7_member_82 (fun H locs hP hS => ?_)
    exact w_X7_member_85 hm hR hK hD v1 v2 v3 r_82 σ hf _ _ _ hP hS (lv_sub hl [0, 1, 2, 3] rfl)
  · rw [if_pos c_62] at hf
    refine lv_aload_n hx hb dX7_member_65 rfl (lv_at hl 0 rfl) ?_
    refine va_get (D := D) (ci := 6) (v := .ref (ad 2)) (C := RX7) (T := TX7) (N := 6) hx hb hts in_X7_member_X7 hown hK hP 0 (wC_0 _ _ _ _ _) rfl 1 (by decide) (hts (.fieldLink RX7 21 "CallGraphs" "members" "LCallGraphs$Members;") (List.mem_of_getElem? (i := 2) rfl)) (fun _ h9 => h9) (fC_0_1 _ _) dX7_member_66 ?_
    refine lv_iload_n hx hb dX7_member_69 rfl (lv_at hl 1 rfl) ?_
    obtain ⟨r_70, hg_70, hf⟩ := oc_e hf
    refine mV_ri (wd := wC ad cI cJ cZ) (σ := σ) (As := [.int v1]) (rest := []) ⟨hx, hb, hml, hown, hts⟩ hK hP hD hS (c_X4_startOf l D ad cI cJ cZ σ v1 hg_70) (cwV 1 hts gX7_member_X4_startOf rfl rfl rfl hd_X4_startOf ⟨Nat.le_trans (Nat.le_of_ble_eq_true rfl) hR.1, Nat.le_trans (Nat.le_of_ble_eq_true rfl) hR.2⟩) rfl (wC_2 _ _ _ _ _) rfl hl.1 rfl (Nat.le_of_ble_eq_true rfl) dX7_member_70 (fun H locs hP hS => ?_)
    refine lv_goto (tgt := 85) hx hb dX7_member_73 (by decide) ?_
    exact w_X7_member_85 hm hR hK hD v1 v2 v3 r_70 σ hf _ _ _ hP hS (lv_sub hl [0, 1, 2, 3] rfl)
def p_X7_member_41 (v1 : Int32) (v2 : Int32) (v3 : Int32) (σ : SS) : Option (Int32 × SS) := if v3 = 1 then oc (p_X6_kindOf_0 σ v1) (fun r_51 => if r_51 = 0 then some ((-102), σ) else p_X7_member_60 v1 v2 v3 σ) else p_X7_member_60 v1 v2 v3 σ
set_option maxHeartbeats 4000000 in
set_option maxRecDepth 100000 in
theorem w_X7_member_41 {p : Program} {l : Launch} {e : Env} {R : Room} {s : State} {m : MethodId} {args : Array Value} {below : List Frame} {meth : Method} {c : Code} {D : va_G} {ad : Nat → Nat} {cI cJ cZ : ClassId} {res : Int32 × SS} (hm : mx p s m args meth c cX7_member 6 (some .int) wsX7_member RX7) (hR : 5 ≤ R.frames ∧ 122 ≤ R.locals) (hK : va_K D vwCl (tyw cI cJ cZ) s) (hD : ∀ σ, va_D (aC ad) (wC ad cI cJ cZ σ)) (v1 : Int32) (v2 : Int32) (v3 : Int32) (σ : SS) (hf : p_X7_member_41 v1 v2 v3 σ = some res) (H : Heap) (locs : List Loc) (ls : Array Slot) (hP : va_P D vwCl (wC ad cI cJ cZ σ) H) (hS : va_S (aC ad) s.heap H locs) (hl : lv_has ls 6 [(0, .ref (ad 0)), (1, .int v1), (2, .int v2), (3, .int v3)]) : W p l e R s m args below meth c H locs 0 0 (MQ below (va_Qi (fun (r : Int32) (u : SS) => (r, u) = res) (fun u t => va_P D vwCl (wC ad cI cJ cZ u) t.heap) (aC ad)) args s 0 0 (aC ad)) (F0 m 41 ls []) := by
  obtain ⟨hx, hb, hr, hml, hown, hts, hlk⟩ := id hm
  unfold p_X7_member_41 at hf
  refine lv_iload_n hx hb dX7_member_41 rfl (lv_at hl 3 rfl) ?_
  refine lv_iconst (v := 1) hx hb dX7_member_42 (by decide) ?_
  refine lv_icmp_ne (tgt := 60) hx hb dX7_member_43 (by decide) (fun c_43 => ?_) (fun c_43 => ?_)
  · rw [if_neg c_43] at hf
    exact w_X7_member_60 hm hR hK hD v1 v2 v3 σ hf _ _ _ hP hS (lv_sub hl [0, 1, 2, 3] rfl)
  · rw [if_pos c_43] at hf
    refine lv_aload_n hx hb dX7_member_46 rfl (lv_at hl 0 rfl) ?_
    refine va_get (D := D) (ci := 6) (v := .ref (ad 1)) (C := RX7) (T := TX7) (N := 6) hx hb hts in_X7_member_X7 hown hK hP 0 (wC_0 _ _ _ _ _) rfl 0 (by decide) (hts (.fieldLink RX7 10 "CallGraphs" "types" "LCallGraphs$Types;") (List.mem_of_getElem? (i := 1) rfl)) (fun _ h9 => h9) (fC_0_0 _ _) dX7_member_47 ?_
    refine lv_iload_n hx hb dX7_member_50 rfl (lv_at hl 1 rfl) ?_
    obtain ⟨r_51, hg_51, hf⟩ := oc_e hf
    refine mV_ri (wd := wC ad cI cJ cZ) (σ := σ) (As := [.int v1]) (rest := []) ⟨hx, hb, hml, hown, hts⟩ hK hP hD hS (c_X6_kindOf l D ad cI cJ cZ σ v1 hg_51) (cwV 1 hts gX7_member_X6_kindOf rfl rfl rfl hd_X6_kindOf ⟨Nat.le_trans (Nat.le_of_ble_eq_true rfl) hR.1, Nat.le_trans (Nat.le_of_ble_eq_true rfl) hR.2⟩) rfl (wC_1 _ _ _ _ _) rfl hl.1 rfl (Nat.le_of_ble_eq_true rfl) dX7_member_51 (fun H locs hP hS => ?_)
    refine lv_if_ne (tgt := 60) hx hb dX7_member_54 (by decide) (fun c_54 => ?_) (fun c_54 => ?_)
    · rw [if_neg c_54] at hf
      exact w_X7_member_60 hm hR hK hD v1 v2 v3 σ hf _ _ _ hP hS (lv_sub hl [0, 1, 2, 3] rfl)
    · rw [if_pos c_54] at hf
      refine lv_bipush (v := (-102)) hx hb dX7_member_57 (by decide) ?_
      exact rt_i (wd := wC ad cI cJ cZ) hx hb hr hlk (Option.some.inj hf) hP hS dX7_member_59
def p_X7_member_0 (v1 : Int32) (v2 : Int32) (v3 : Int32) (σ : SS) : Option (Int32 × SS) := oc (p_X6_knows_0 σ v1) (fun r_5 => if r_5 = 0 then some ((-101), σ) else if v3 < 0 then p_X7_member_23 σ else if v3 ≤ 4 then if v3 = 4 then p_X7_member_41 v1 v2 v3 σ else oc (p_X7_isName_0 v2) (fun r_32 => if r_32 = 0 then some ((-102), σ) else p_X7_member_41 v1 v2 v3 σ) else p_X7_member_23 σ)
set_option maxHeartbeats 4000000 in
set_option maxRecDepth 100000 in
theorem w_X7_member_0 {p : Program} {l : Launch} {e : Env} {R : Room} {s : State} {m : MethodId} {args : Array Value} {below : List Frame} {meth : Method} {c : Code} {D : va_G} {ad : Nat → Nat} {cI cJ cZ : ClassId} {res : Int32 × SS} (hm : mx p s m args meth c cX7_member 6 (some .int) wsX7_member RX7) (hR : 5 ≤ R.frames ∧ 122 ≤ R.locals) (hK : va_K D vwCl (tyw cI cJ cZ) s) (hD : ∀ σ, va_D (aC ad) (wC ad cI cJ cZ σ)) (v1 : Int32) (v2 : Int32) (v3 : Int32) (σ : SS) (hf : p_X7_member_0 v1 v2 v3 σ = some res) (H : Heap) (locs : List Loc) (ls : Array Slot) (hP : va_P D vwCl (wC ad cI cJ cZ σ) H) (hS : va_S (aC ad) s.heap H locs) (hl : lv_has ls 6 [(0, .ref (ad 0)), (1, .int v1), (2, .int v2), (3, .int v3)]) : W p l e R s m args below meth c H locs 0 0 (MQ below (va_Qi (fun (r : Int32) (u : SS) => (r, u) = res) (fun u t => va_P D vwCl (wC ad cI cJ cZ u) t.heap) (aC ad)) args s 0 0 (aC ad)) (F0 m 0 ls []) := by
  obtain ⟨hx, hb, hr, hml, hown, hts, hlk⟩ := id hm
  unfold p_X7_member_0 at hf
  refine lv_aload_n hx hb dX7_member_0 rfl (lv_at hl 0 rfl) ?_
  refine va_get (D := D) (ci := 6) (v := .ref (ad 1)) (C := RX7) (T := TX7) (N := 6) hx hb hts in_X7_member_X7 hown hK hP 0 (wC_0 _ _ _ _ _) rfl 0 (by decide) (hts (.fieldLink RX7 10 "CallGraphs" "types" "LCallGraphs$Types;") (List.mem_of_getElem? (i := 1) rfl)) (fun _ h9 => h9) (fC_0_0 _ _) dX7_member_1 ?_
  refine lv_iload_n hx hb dX7_member_4 rfl (lv_at hl 1 rfl) ?_
  obtain ⟨r_5, hg_5, hf⟩ := oc_e hf
  refine mV_ri (wd := wC ad cI cJ cZ) (σ := σ) (As := [.int v1]) (rest := []) ⟨hx, hb, hml, hown, hts⟩ hK hP hD hS (c_X6_knows l D ad cI cJ cZ σ v1 hg_5) (cwV 1 hts gX7_member_X6_knows rfl rfl rfl hd_X6_knows ⟨Nat.le_trans (Nat.le_of_ble_eq_true rfl) hR.1, Nat.le_trans (Nat.le_of_ble_eq_true rfl) hR.2⟩) rfl (wC_1 _ _ _ _ _) rfl hl.1 rfl (Nat.le_of_ble_eq_true rfl) dX7_member_5 (fun H locs hP hS => ?_)
  refine lv_if_ne (tgt := 14) hx hb dX7_member_8 (by decide) (fun c_8 => ?_) (fun c_8 => ?_)
  · rw [if_neg c_8] at hf
    refine lv_iload_n hx hb dX7_member_14 rfl (lv_at hl 3 rfl) ?_
    refine lv_if_lt (tgt := 23) hx hb dX7_member_15 (by decide) (fun c_15 => ?_) (fun c_15 => ?_)
    · rw [if_pos c_15] at hf
      exact w_X7_member_23 hm hR hK hD σ hf _ _ _ hP hS (lv_sub hl [] rfl)
    · rw [if_neg c_15] at hf
      refine lv_iload_n hx hb dX7_member_18 rfl (lv_at hl 3 rfl) ?_
      refine lv_iconst (v := 4) hx hb dX7_member_19 (by decide) ?_
      refine lv_icmp_le (tgt := 26) hx hb dX7_member_20 (by decide) (fun c_20 => ?_) (fun c_20 => ?_)
      · rw [if_pos c_20] at hf
        refine lv_iload_n hx hb dX7_member_26 rfl (lv_at hl 3 rfl) ?_
        refine lv_iconst (v := 4) hx hb dX7_member_27 (by decide) ?_
        refine lv_icmp_eq (tgt := 41) hx hb dX7_member_28 (by decide) (fun c_28 => ?_) (fun c_28 => ?_)
        · rw [if_pos c_28] at hf
          exact w_X7_member_41 hm hR hK hD v1 v2 v3 σ hf _ _ _ hP hS (lv_sub hl [0, 1, 2, 3] rfl)
        · rw [if_neg c_28] at hf
          refine lv_iload_n hx hb dX7_member_31 rfl (lv_at hl 2 rfl) ?_
          obtain ⟨r_32, hg_32, hf⟩ := oc_e hf
          refine mS_i (D := D) (As := [.int v2]) (rest := []) ⟨hx, hb, hml, hown, hts⟩ hP hS (c_X7_isName l v2 hg_32) (va_cwS 1 hts gX7_member_X7_isName rfl rfl rfl hd_X7_isName ⟨Nat.le_trans (Nat.le_of_ble_eq_true rfl) hR.1, Nat.le_trans (Nat.le_of_ble_eq_true rfl) hR.2⟩) rfl hl.1 rfl (Nat.le_of_ble_eq_true rfl) dX7_member_32 (fun H locs hP hS => ?_)
          refine lv_if_ne (tgt := 41) hx hb dX7_member_35 (by decide) (fun c_35 => ?_) (fun c_35 => ?_)
          · rw [if_neg c_35] at hf
            exact w_X7_member_41 hm hR hK hD v1 v2 v3 σ hf _ _ _ hP hS (lv_sub hl [0, 1, 2, 3] rfl)
          · rw [if_pos c_35] at hf
            refine lv_bipush (v := (-102)) hx hb dX7_member_38 (by decide) ?_
            exact rt_i (wd := wC ad cI cJ cZ) hx hb hr hlk (Option.some.inj hf) hP hS dX7_member_40
      · rw [if_neg c_20] at hf
        exact w_X7_member_23 hm hR hK hD σ hf _ _ _ hP hS (lv_sub hl [] rfl)
  · rw [if_pos c_8] at hf
    refine lv_bipush (v := (-101)) hx hb dX7_member_11 (by decide) ?_
    exact rt_i (wd := wC ad cI cJ cZ) hx hb hr hlk (Option.some.inj hf) hP hS dX7_member_13
theorem hd_X7_member : yX7_member.cls = RX7 ∧ yX7_member.cls ≠ "java/lang/invoke/MethodHandle" ∧ yX7_member.cls ≠ "java/lang/invoke/VarHandle" ∧ (parseMethodDescriptor yX7_member.desc).map (fun d => d.parameters.length) = some 3 := by decide +kernel
set_option maxHeartbeats 4000000 in
set_option maxRecDepth 100000 in
theorem c_X7_member (l : Launch) (D : va_G) (ad : Nat → Nat) (cI cJ cZ : ClassId) (σ : SS) (v1 : Int32) (v2 : Int32) (v3 : Int32) {res : Int32 × SS} (hf : p_X7_member_0 v1 v2 v3 σ = some res) : Met l yX7_member wsX7_member ({ frames := 5, cells := 0, slots := 0, locals := 122 } : Room) (PW D (tyw cI cJ cZ) (wC ad cI cJ cZ σ) [.ref (ad 0), .int v1, .int v2, .int v3]) (va_Qi (fun (r : Int32) (u : SS) => (r, u) = res) (fun u t => va_P D vwCl (wC ad cI cJ cZ u) t.heap) (aC ad)) 0 0 (aC ad) := by
  refine Met.ofW (cc := cX7_member) (maxL := 6) (ret := (some .int)) (by decide) rfl ?_
  intro p e s m args below meth c s₁ B hml hv
  obtain ⟨rfl, hP, hK, hD0⟩ := hv
  have hD : ∀ σ, va_D (aC ad) (wC ad cI cJ cZ σ) := fun σ => wd_D hD0 (wC_map _ _ _ _ _) (wC_map _ _ _ _ _)
  have hm : mx p s m _ meth c cX7_member 6 (some .int) wsX7_member RX7 := ⟨B.exec, B.bytes, B.returns, hml, findClass_of_methodNamed B.named, atoms_spec (ws := wsX7_member) B.pre, B.notSynchronized⟩
  have hl := lv_entry ([.ref (ad 0), .int v1, .int v2, .int v3]) (n := 6) (Nat.le_of_ble_eq_true rfl)
  rw [lg_entry_eq]
  generalize (lg_sl ([.ref (ad 0), .int v1, .int v2, .int v3]) ++ List.replicate (6 - (lg_sl ([.ref (ad 0), .int v1, .int v2, .int v3])).length) Slot.unset).toArray = ls at hl ⊢
  exact w_X7_member_0 hm ⟨Nat.le_refl _, Nat.le_refl _⟩ hK hD v1 v2 v3 σ hf _ _ _ hP va_S.rf hl
/-! CallGraphs.isBag(I)Z -/

def p_X7_isBag_14 (t0 : Int32) : Option (Int32) := ob t0 (some t0)
set_option maxHeartbeats 4000000 in
set_option maxRecDepth 100000 in
theorem w_X7_isBag_14 {p : Program} {l : Launch} {e : Env} {R : Room} {s : State} {m : MethodId} {args : Array Value} {below : List Frame} {meth : Method} {c : Code} {res : Int32} (hm : mx p s m args meth c cX7_isBag 1 (some .boolean) wsX7_isBag RX7) (hR : 0 ≤ R.frames ∧ 0 ≤ R.locals) (t0 : Int32) (hf : p_X7_isBag_14 t0 = some res) (H : Heap) (locs : List Loc) (ls : Array Slot) (hS : va_S (fun _ => False) s.heap H locs) (hl : lv_has ls 1 []) : W p l e R s m args below meth c H locs 0 0 (MQ below (va_Qi (fun (r : Int32) (_ : Unit) => r = res) (fun _ _ => True) (fun _ => False)) args s 0 0 (fun _ => False)) (F0 m 14 ls [.int t0]) := by
  obtain ⟨hx, hb, hr, hml, hown, hts, hlk⟩ := id hm
  unfold p_X7_isBag_14 at hf
  obtain ⟨h_14, hf⟩ := ob_e hf
  exact rs_z hx hb hr hlk h_14 (Option.some.inj hf) hS dX7_isBag_14
def p_X7_isBag_13 : Option (Int32) := p_X7_isBag_14 0
set_option maxHeartbeats 4000000 in
set_option maxRecDepth 100000 in
theorem w_X7_isBag_13 {p : Program} {l : Launch} {e : Env} {R : Room} {s : State} {m : MethodId} {args : Array Value} {below : List Frame} {meth : Method} {c : Code} {res : Int32} (hm : mx p s m args meth c cX7_isBag 1 (some .boolean) wsX7_isBag RX7) (hR : 0 ≤ R.frames ∧ 0 ≤ R.locals) (hf : p_X7_isBag_13 = some res) (H : Heap) (locs : List Loc) (ls : Array Slot) (hS : va_S (fun _ => False) s.heap H locs) (hl : lv_has ls 1 []) : W p l e R s m args below meth c H locs 0 0 (MQ below (va_Qi (fun (r : Int32) (_ : Unit) => r = res) (fun _ _ => True) (fun _ => False)) args s 0 0 (fun _ => False)) (F0 m 13 ls []) := by
  obtain ⟨hx, hb, hr, hml, hown, hts, hlk⟩ := id hm
  unfold p_X7_isBag_13 at hf
  refine lv_iconst (v := 0) hx hb dX7_isBag_13 (by decide) ?_
  exact w_X7_isBag_14 hm hR 0 hf _ _ _ hS (lv_sub hl [] rfl)
def p_X7_isBag_0 (v0 : Int32) : Option (Int32) := if v0 < 0 then p_X7_isBag_13 else if 4 ≤ v0 then p_X7_isBag_13 else p_X7_isBag_14 1
set_option maxHeartbeats 4000000 in
set_option maxRecDepth 100000 in
theorem w_X7_isBag_0 {p : Program} {l : Launch} {e : Env} {R : Room} {s : State} {m : MethodId} {args : Array Value} {below : List Frame} {meth : Method} {c : Code} {res : Int32} (hm : mx p s m args meth c cX7_isBag 1 (some .boolean) wsX7_isBag RX7) (hR : 0 ≤ R.frames ∧ 0 ≤ R.locals) (v0 : Int32) (hf : p_X7_isBag_0 v0 = some res) (H : Heap) (locs : List Loc) (ls : Array Slot) (hS : va_S (fun _ => False) s.heap H locs) (hl : lv_has ls 1 [(0, .int v0)]) : W p l e R s m args below meth c H locs 0 0 (MQ below (va_Qi (fun (r : Int32) (_ : Unit) => r = res) (fun _ _ => True) (fun _ => False)) args s 0 0 (fun _ => False)) (F0 m 0 ls []) := by
  obtain ⟨hx, hb, hr, hml, hown, hts, hlk⟩ := id hm
  unfold p_X7_isBag_0 at hf
  refine lv_iload_n hx hb dX7_isBag_0 rfl (lv_at hl 0 rfl) ?_
  refine lv_if_lt (tgt := 13) hx hb dX7_isBag_1 (by decide) (fun c_1 => ?_) (fun c_1 => ?_)
  · rw [if_pos c_1] at hf
    exact w_X7_isBag_13 hm hR hf _ _ _ hS (lv_sub hl [] rfl)
  · rw [if_neg c_1] at hf
    refine lv_iload_n hx hb dX7_isBag_4 rfl (lv_at hl 0 rfl) ?_
    refine lv_iconst (v := 4) hx hb dX7_isBag_5 (by decide) ?_
    refine lv_icmp_ge (tgt := 13) hx hb dX7_isBag_6 (by decide) (fun c_6 => ?_) (fun c_6 => ?_)
    · rw [if_pos c_6] at hf
      exact w_X7_isBag_13 hm hR hf _ _ _ hS (lv_sub hl [] rfl)
    · rw [if_neg c_6] at hf
      refine lv_iconst (v := 1) hx hb dX7_isBag_9 (by decide) ?_
      refine lv_goto (tgt := 14) hx hb dX7_isBag_10 (by decide) ?_
      exact w_X7_isBag_14 hm hR 1 hf _ _ _ hS (lv_sub hl [] rfl)
theorem hd_X7_isBag : yX7_isBag.cls ≠ "java/lang/invoke/MethodHandle" ∧ yX7_isBag.cls ≠ "java/lang/invoke/VarHandle" ∧ (parseMethodDescriptor yX7_isBag.desc).map (fun d => d.parameters.length) = some 1 := by decide +kernel
set_option maxHeartbeats 4000000 in
set_option maxRecDepth 100000 in
theorem c_X7_isBag (l : Launch) (v0 : Int32) {res : Int32} (hf : p_X7_isBag_0 v0 = some res) : Met l yX7_isBag wsX7_isBag ({ frames := 0, cells := 0, slots := 0, locals := 0 } : Room) (va_Pc [.int v0] (fun _ => True)) (va_Qi (fun (r : Int32) (_ : Unit) => r = res) (fun _ _ => True) (fun _ => False)) 0 0 (fun _ => False) := by
  refine Met.ofW (cc := cX7_isBag) (maxL := 1) (ret := (some .boolean)) (by decide) rfl ?_
  intro p e s m args below meth c s₁ B hml hv
  obtain ⟨rfl, -⟩ := hv
  have hm : mx p s m _ meth c cX7_isBag 1 (some .boolean) wsX7_isBag RX7 := ⟨B.exec, B.bytes, B.returns, hml, findClass_of_methodNamed B.named, atoms_spec (ws := wsX7_isBag) B.pre, B.notSynchronized⟩
  have hl := lv_entry ([.int v0]) (n := 1) (Nat.le_of_ble_eq_true rfl)
  rw [lg_entry_eq]
  generalize (lg_sl ([.int v0]) ++ List.replicate (1 - (lg_sl ([.int v0])).length) Slot.unset).toArray = ls at hl ⊢
  exact w_X7_isBag_0 hm ⟨Nat.le_refl _, Nat.le_refl _⟩ v0 hf _ _ _ va_S.rf hl
/-! CallGraphs.partsFit(IIII)Z -/
theorem in_X7_partsFit_X7 : ∀ w ∈ u_ws RX7 TX7 6, w ∈ wsX7_partsFit := fun w h => List.mem_cons_of_mem _ (List.mem_append_left _ (List.mem_append_left _ (List.mem_append_right _ h)))
def p_X7_partsFit_64 (σ : SS) (t0 : Int32) : Option (Int32) := ob t0 (some t0)
set_option maxHeartbeats 4000000 in
set_option maxRecDepth 100000 in
theorem w_X7_partsFit_64 {p : Program} {l : Launch} {e : Env} {R : Room} {s : State} {m : MethodId} {args : Array Value} {below : List Frame} {meth : Method} {c : Code} {D : va_G} {ad : Nat → Nat} {cI cJ cZ : ClassId} {res : Int32} (hm : mx p s m args meth c cX7_partsFit 5 (some .boolean) wsX7_partsFit RX7) (hR : 3 ≤ R.frames ∧ 66 ≤ R.locals) (hK : va_K D vwCl (tyw cI cJ cZ) s) (hD : ∀ σ, va_D (aC ad) (wC ad cI cJ cZ σ)) (σ : SS) (t0 : Int32) (hf : p_X7_partsFit_64 σ t0 = some res) (H : Heap) (locs : List Loc) (ls : Array Slot) (hP : va_P D vwCl (wC ad cI cJ cZ σ) H) (hS : va_S (aC ad) s.heap H locs) (hl : lv_has ls 5 []) : W p l e R s m args below meth c H locs 0 0 (MQ below (va_Qi (fun (r : Int32) (u : SS) => r = res ∧ u = σ) (fun u t => va_P D vwCl (wC ad cI cJ cZ u) t.heap) (aC ad)) args s 0 0 (aC ad)) (F0 m 64 ls [.int t0]) := by
  obtain ⟨hx, hb, hr, hml, hown, hts, hlk⟩ := id hm
  unfold p_X7_partsFit_64 at hf
  obtain ⟨h_64, hf⟩ := ob_e hf
  exact rt_z (wd := wC ad cI cJ cZ) hx hb hr hlk h_64 ⟨Option.some.inj hf, rfl⟩ hP hS dX7_partsFit_64
def p_X7_partsFit_65 (σ : SS) (v4 : Int32) : Option (Int32) := oc (p_X7_isName_0 v4) (fun r_67 => ob r_67 (some r_67))
set_option maxHeartbeats 4000000 in
set_option maxRecDepth 100000 in
theorem w_X7_partsFit_65 {p : Program} {l : Launch} {e : Env} {R : Room} {s : State} {m : MethodId} {args : Array Value} {below : List Frame} {meth : Method} {c : Code} {D : va_G} {ad : Nat → Nat} {cI cJ cZ : ClassId} {res : Int32} (hm : mx p s m args meth c cX7_partsFit 5 (some .boolean) wsX7_partsFit RX7) (hR : 3 ≤ R.frames ∧ 66 ≤ R.locals) (hK : va_K D vwCl (tyw cI cJ cZ) s) (hD : ∀ σ, va_D (aC ad) (wC ad cI cJ cZ σ)) (σ : SS) (v4 : Int32) (hf : p_X7_partsFit_65 σ v4 = some res) (H : Heap) (locs : List Loc) (ls : Array Slot) (hP : va_P D vwCl (wC ad cI cJ cZ σ) H) (hS : va_S (aC ad) s.heap H locs) (hl : lv_has ls 5 [(4, .int v4)]) : W p l e R s m args below meth c H locs 0 0 (MQ below (va_Qi (fun (r : Int32) (u : SS) => r = res ∧ u = σ) (fun u t => va_P D vwCl (wC ad cI cJ cZ u) t.heap) (aC ad)) args s 0 0 (aC ad)) (F0 m 65 ls []) := by
  obtain ⟨hx, hb, hr, hml, hown, hts, hlk⟩ := id hm
  unfold p_X7_partsFit_65 at hf
  refine lv_iload hx hb dX7_partsFit_65 (lv_at hl 0 rfl) ?_
  obtain ⟨r_67, hg_67, hf⟩ := oc_e hf
  refine mS_i (D := D) (As := [.int v4]) (rest := []) ⟨hx, hb, hml, hown, hts⟩ hP hS (c_X7_isName l v4 hg_67) (va_cwS 1 hts gX7_partsFit_X7_isName rfl rfl rfl hd_X7_isName ⟨Nat.le_trans (Nat.le_of_ble_eq_true rfl) hR.1, Nat.le_trans (Nat.le_of_ble_eq_true rfl) hR.2⟩) rfl hl.1 rfl (Nat.le_of_ble_eq_true rfl) dX7_partsFit_67 (fun H locs hP hS => ?_)
  obtain ⟨h_70, hf⟩ := ob_e hf
  exact rt_z (wd := wC ad cI cJ cZ) hx hb hr hlk h_70 ⟨Option.some.inj hf, rfl⟩ hP hS dX7_partsFit_70
def p_X7_partsFit_103 (σ : SS) (t0 : Int32) : Option (Int32) := ob t0 (some t0)
set_option maxHeartbeats 4000000 in
set_option maxRecDepth 100000 in
theorem w_X7_partsFit_103 {p : Program} {l : Launch} {e : Env} {R : Room} {s : State} {m : MethodId} {args : Array Value} {below : List Frame} {meth : Method} {c : Code} {D : va_G} {ad : Nat → Nat} {cI cJ cZ : ClassId} {res : Int32} (hm : mx p s m args meth c cX7_partsFit 5 (some .boolean) wsX7_partsFit RX7) (hR : 3 ≤ R.frames ∧ 66 ≤ R.locals) (hK : va_K D vwCl (tyw cI cJ cZ) s) (hD : ∀ σ, va_D (aC ad) (wC ad cI cJ cZ σ)) (σ : SS) (t0 : Int32) (hf : p_X7_partsFit_103 σ t0 = some res) (H : Heap) (locs : List Loc) (ls : Array Slot) (hP : va_P D vwCl (wC ad cI cJ cZ σ) H) (hS : va_S (aC ad) s.heap H locs) (hl : lv_has ls 5 []) : W p l e R s m args below meth c H locs 0 0 (MQ below (va_Qi (fun (r : Int32) (u : SS) => r = res ∧ u = σ) (fun u t => va_P D vwCl (wC ad cI cJ cZ u) t.heap) (aC ad)) args s 0 0 (aC ad)) (F0 m 103 ls [.int t0]) := by
  obtain ⟨hx, hb, hr, hml, hown, hts, hlk⟩ := id hm
  unfold p_X7_partsFit_103 at hf
  obtain ⟨h_103, hf⟩ := ob_e hf
  exact rt_z (wd := wC ad cI cJ cZ) hx hb hr hlk h_103 ⟨Option.some.inj hf, rfl⟩ hP hS dX7_partsFit_103
def p_X7_partsFit_102 (σ : SS) : Option (Int32) := p_X7_partsFit_103 σ 0
set_option maxHeartbeats 4000000 in
set_option maxRecDepth 100000 in
theorem w_X7_partsFit_102 {p : Program} {l : Launch} {e : Env} {R : Room} {s : State} {m : MethodId} {args : Array Value} {below : List Frame} {meth : Method} {c : Code} {D : va_G} {ad : Nat → Nat} {cI cJ cZ : ClassId} {res : Int32} (hm : mx p s m args meth c cX7_partsFit 5 (some .boolean) wsX7_partsFit RX7) (hR : 3 ≤ R.frames ∧ 66 ≤ R.locals) (hK : va_K D vwCl (tyw cI cJ cZ) s) (hD : ∀ σ, va_D (aC ad) (wC ad cI cJ cZ σ)) (σ : SS) (hf : p_X7_partsFit_102 σ = some res) (H : Heap) (locs : List Loc) (ls : Array Slot) (hP : va_P D vwCl (wC ad cI cJ cZ σ) H) (hS : va_S (aC ad) s.heap H locs) (hl : lv_has ls 5 []) : W p l e R s m args below meth c H locs 0 0 (MQ below (va_Qi (fun (r : Int32) (u : SS) => r = res ∧ u = σ) (fun u t => va_P D vwCl (wC ad cI cJ cZ u) t.heap) (aC ad)) args s 0 0 (aC ad)) (F0 m 102 ls []) := by
  obtain ⟨hx, hb, hr, hml, hown, hts, hlk⟩ := id hm
  unfold p_X7_partsFit_102 at hf
  refine lv_iconst (v := 0) hx hb dX7_partsFit_102 (by decide) ?_
  exact w_X7_partsFit_103 hm hR hK hD σ 0 hf _ _ _ hP hS (lv_sub hl [] rfl)
def p_X7_partsFit_130 (σ : SS) (t0 : Int32) : Option (Int32) := ob t0 (some t0)
set_option maxHeartbeats 4000000 in
set_option maxRecDepth 100000 in
theorem w_X7_partsFit_130 {p : Program} {l : Launch} {e : Env} {R : Room} {s : State} {m : MethodId} {args : Array Value} {below : List Frame} {meth : Method} {c : Code} {D : va_G} {ad : Nat → Nat} {cI cJ cZ : ClassId} {res : Int32} (hm : mx p s m args meth c cX7_partsFit 5 (some .boolean) wsX7_partsFit RX7) (hR : 3 ≤ R.frames ∧ 66 ≤ R.locals) (hK : va_K D vwCl (tyw cI cJ cZ) s) (hD : ∀ σ, va_D (aC ad) (wC ad cI cJ cZ σ)) (σ : SS) (t0 : Int32) (hf : p_X7_partsFit_130 σ t0 = some res) (H : Heap) (locs : List Loc) (ls : Array Slot) (hP : va_P D vwCl (wC ad cI cJ cZ σ) H) (hS : va_S (aC ad) s.heap H locs) (hl : lv_has ls 5 []) : W p l e R s m args below meth c H locs 0 0 (MQ below (va_Qi (fun (r : Int32) (u : SS) => r = res ∧ u = σ) (fun u t => va_P D vwCl (wC ad cI cJ cZ u) t.heap) (aC ad)) args s 0 0 (aC ad)) (F0 m 130 ls [.int t0]) := by
  obtain ⟨hx, hb, hr, hml, hown, hts, hlk⟩ := id hm
  unfold p_X7_partsFit_130 at hf
  obtain ⟨h_130, hf⟩ := ob_e hf
  exact rt_z (wd := wC ad cI cJ cZ) hx hb hr hlk h_130 ⟨Option.some.inj hf, rfl⟩ hP hS dX7_partsFit_130
def p_X7_partsFit_129 (σ : SS) : Option (Int32) := p_X7_partsFit_130 σ 0
set_option maxHeartbeats 4000000 in
set_option maxRecDepth 100000 in
theorem w_X7_partsFit_129 {p : Program} {l : Launch} {e : Env} {R : Room} {s : State} {m : MethodId} {args : Array Value} {below : List Frame} {meth : Method} {c : Code} {D : va_G} {ad : Nat → Nat} {cI cJ cZ : ClassId} {res : Int32} (hm : mx p s m args meth c cX7_partsFit 5 (some .boolean) wsX7_partsFit RX7) (hR : 3 ≤ R.frames ∧ 66 ≤ R.locals) (hK : va_K D vwCl (tyw cI cJ cZ) s) (hD : ∀ σ, va_D (aC ad) (wC ad cI cJ cZ σ)) (σ : SS) (hf : p_X7_partsFit_129 σ = some res) (H : Heap) (locs : List Loc) (ls : Array Slot) (hP : va_P D vwCl (wC ad cI cJ cZ σ) H) (hS : va_S (aC ad) s.heap H locs) (hl : lv_has ls 5 []) : W p l e R s m args below meth c H locs 0 0 (MQ below (va_Qi (fun (r : Int32) (u : SS) => r = res ∧ u = σ) (fun u t => va_P D vwCl (wC ad cI cJ cZ u) t.heap) (aC ad)) args s 0 0 (aC ad)) (F0 m 129 ls []) := by
  obtain ⟨hx, hb, hr, hml, hown, hts, hlk⟩ := id hm
  unfold p_X7_partsFit_129 at hf
  refine lv_iconst (v := 0) hx hb dX7_partsFit_129 (by decide) ?_
  exact w_X7_partsFit_130 hm hR hK hD σ 0 hf _ _ _ hP hS (lv_sub hl [] rfl)
def p_X7_partsFit_0 (σ : SS) (v1 : Int32) (v2 : Int32) (v3 : Int32) (v4 : Int32) : Option (Int32) := (if v2 = 0 then oc (p_X6_kindOf_0 σ v3) (fun r_53 => if r_53 = 0 then p_X7_partsFit_64 σ 1 else p_X7_partsFit_64 σ 0) else if v2 = 1 then p_X7_partsFit_65 σ v4 else if v2 = 2 then oc (p_X7_isName_0 v4) (fun r_73 => if r_73 = 0 then p_X7_partsFit_102 σ else oc (p_X4_typeOf_0 σ v1) (fun r_89 => oc (p_X6_isNextAbove_0 σ v3 r_89) (fun r_92 => if r_92 = 0 then p_X7_partsFit_102 σ else p_X7_partsFit_103 σ 1))) else if v2 = 3 then p_X7_partsFit_65 σ v4 else if v2 = 4 then some 1 else if v2 = 5 then oc (p_X7_isBag_0 v3) (fun r_107 => if r_107 = 0 then p_X7_partsFit_129 σ else oc (p_X4_isHandle_0 σ v4) (fun r_119 => if r_119 = 0 then p_X7_partsFit_129 σ else p_X7_partsFit_130 σ 1)) else if v2 = 6 then oc (p_X7_isBag_0 v3) (fun r_132 => ob r_132 (some r_132)) else if v2 = 7 then oc (p_X7_isName_0 v4) (fun r_138 => ob r_138 (some r_138)) else some 0)
set_option maxHeartbeats 4000000 in
set_option maxRecDepth 100000 in
theorem w_X7_partsFit_0 {p : Program} {l : Launch} {e : Env} {R : Room} {s : State} {m : MethodId} {args : Array Value} {below : List Frame} {meth : Method} {c : Code} {D : va_G} {ad : Nat → Nat} {cI cJ cZ : ClassId} {res : Int32} (hm : mx p s m args meth c cX7_partsFit 5 (some .boolean) wsX7_partsFit RX7) (hR : 3 ≤ R.frames ∧ 66 ≤ R.locals) (hK : va_K D vwCl (tyw cI cJ cZ) s) (hD : ∀ σ, va_D (aC ad) (wC ad cI cJ cZ σ)) (σ : SS) (v1 : Int32) (v2 : Int32) (v3 : Int32) (v4 : Int32) (hf : p_X7_partsFit_0 σ v1 v2 v3 v4 = some res) (H : Heap) (locs : List Loc) (ls : Array Slot) (hP : va_P D vwCl (wC ad cI cJ cZ σ) H) (hS : va_S (aC ad) s.heap H locs) (hl : lv_has ls 5 [(0, .ref (ad 0)), (1, .int v1), (2, .int v2), (3, .int v3), (4, .int v4)]) : W p l e R s m args below meth c H locs 0 0 (MQ below (va_Qi (fun (r : Int32) (u : SS) => r = res ∧ u = σ) (fun u t => va_P D vwCl (wC ad cI cJ cZ u) t.heap) (aC ad)) args s 0 0 (aC ad)) (F0 m 0 ls []) := by
  obtain ⟨hx, hb, hr, hml, hown, hts, hlk⟩ := id hm
  unfold p_X7_partsFit_0 at hf
  refine lv_iload_n hx hb dX7_partsFit_0 rfl (lv_at hl 2 rfl) ?_
  by_cases c_1_0 : v2 = 0
  · rw [if_pos c_1_0] at hf
    refine lv_tableIn (off := 47) (tgt := 48) hx hb dX7_partsFit_1 (by rw [c_1_0]; decide) (by rw [c_1_0]; decide) (by rw [c_1_0]; rfl) (by decide) ?_
    refine lv_aload_n hx hb dX7_partsFit_48 rfl (lv_at hl 0 rfl) ?_
    refine va_get (D := D) (ci := 6) (v := .ref (ad 1)) (C := RX7) (T := TX7) (N := 6) hx hb hts in_X7_partsFit_X7 hown hK hP 0 (wC_0 _ _ _ _ _) rfl 0 (by decide) (hts (.fieldLink RX7 10 "CallGraphs" "types" "LCallGraphs$Types;") (List.mem_of_getElem? (i := 1) rfl)) (fun _ h9 => h9) (fC_0_0 _ _) dX7_partsFit_49 ?_
    refine lv_iload_n hx hb dX7_partsFit_52 rfl (lv_at hl 3 rfl) ?_
    obtain ⟨r_53, hg_53, hf⟩ := oc_e hf
    refine mV_ri (wd := wC ad cI cJ cZ) (σ := σ) (As := [.int v3]) (rest := []) ⟨hx, hb, hml, hown, hts⟩ hK hP hD hS (c_X6_kindOf l D ad cI cJ cZ σ v3 hg_53) (cwV 1 hts gX7_partsFit_X6_kindOf rfl rfl rfl hd_X6_kindOf ⟨Nat.le_trans (Nat.le_of_ble_eq_true rfl) hR.1, Nat.le_trans (Nat.le_of_ble_eq_true rfl) hR.2⟩) rfl (wC_1 _ _ _ _ _) rfl hl.1 rfl (Nat.le_of_ble_eq_true rfl) dX7_partsFit_53 (fun H locs hP hS => ?_)
    refine lv_if_ne (tgt := 63) hx hb dX7_partsFit_56 (by decide) (fun c_56 => ?_) (fun c_56 => ?_)
    · rw [if_neg c_56] at hf
      refine lv_iconst (v := 0) hx hb dX7_partsFit_63 (by decide) ?_
      exact w_X7_partsFit_64 hm hR hK hD σ 0 hf _ _ _ hP hS (lv_sub hl [] rfl)
    · rw [if_pos c_56] at hf
      refine lv_iconst (v := 1) hx hb dX7_partsFit_59 (by decide) ?_
      refine lv_goto (tgt := 64) hx hb dX7_partsFit_60 (by decide) ?_
      exact w_X7_partsFit_64 hm hR hK hD σ 1 hf _ _ _ hP hS (lv_sub hl [] rfl)
  rw [if_neg c_1_0] at hf
  by_cases c_1_1 : v2 = 1
  · rw [if_pos c_1_1] at hf
    refine lv_tableIn (off := 64) (tgt := 65) hx hb dX7_partsFit_1 (by rw [c_1_1]; decide) (by rw [c_1_1]; decide) (by rw [c_1_1]; rfl) (by decide) ?_
    exact w_X7_partsFit_65 hm hR hK hD σ v4 hf _ _ _ hP hS (lv_sub hl [4] rfl)
  rw [if_neg c_1_1] at hf
  by_cases c_1_2 : v2 = 2
  · rw [if_pos c_1_2] at hf
    refine lv_tableIn (off := 70) (tgt := 71) hx hb dX7_partsFit_1 (by rw [c_1_2]; decide) (by rw [c_1_2]; decide) (by rw [c_1_2]; rfl) (by decide) ?_
    refine lv_iload hx hb dX7_partsFit_71 (lv_at hl 4 rfl) ?_
    obtain ⟨r_73, hg_73, hf⟩ := oc_e hf
    refine mS_i (D := D) (As := [.int v4]) (rest := []) ⟨hx, hb, hml, hown, hts⟩ hP hS (c_X7_isName l v4 hg_73) (va_cwS 1 hts gX7_partsFit_X7_isName rfl rfl rfl hd_X7_isName ⟨Nat.le_trans (Nat.le_of_ble_eq_true rfl) hR.1, Nat.le_trans (Nat.le_of_ble_eq_true rfl) hR.2⟩) rfl hl.1 rfl (Nat.le_of_ble_eq_true rfl) dX7_partsFit_73 (fun H locs hP hS => ?_)
    refine lv_if_eq (tgt := 102) hx hb dX7_partsFit_76 (by decide) (fun c_76 => ?_) (fun c_76 => ?_)
    · rw [if_pos c_76] at hf
      exact w_X7_partsFit_102 hm hR hK hD σ hf _ _ _ hP hS (lv_sub hl [] rfl)
    · rw [if_neg c_76] at hf
      refine lv_aload_n hx hb dX7_partsFit_79 rfl (lv_at hl 0 rfl) ?_
      refine va_get (D := D) (ci := 6) (v := .ref (ad 1)) (C := RX7) (T := TX7) (N := 6) hx hb hts in_X7_partsFit_X7 hown hK hP 0 (wC_0 _ _ _ _ _) rfl 0 (by decide) (hts (.fieldLink RX7 10 "CallGraphs" "types" "LCallGraphs$Types;") (List.mem_of_getElem? (i := 1) rfl)) (fun _ h9 => h9) (fC_0_0 _ _) dX7_partsFit_80 ?_
      refine lv_iload_n hx hb dX7_partsFit_83 rfl (lv_at hl 3 rfl) ?_
      refine lv_aload_n hx hb dX7_partsFit_84 rfl (lv_at hl 0 rfl) ?_
      refine va_get (D := D) (ci := 6) (v := .ref (ad 2)) (C := RX7) (T := TX7) (N := 6) hx hb hts in_X7_partsFit_X7 hown hK hP 0 (wC_0 _ _ _ _ _) rfl 1 (by decide) (hts (.fieldLink RX7 21 "CallGraphs" "members" "LCallGraphs$Members;") (List.mem_of_getElem? (i := 2) rfl)) (fun _ h9 => h9) (fC_0_1 _ _) dX7_partsFit_85 ?_
      refine lv_iload_n hx hb dX7_partsFit_88 rfl (lv_at hl 1 rfl) ?_
      obtain ⟨r_89, hg_89, hf⟩ := oc_e hf
      refine mV_ri (wd := wC ad cI cJ cZ) (σ := σ) (As := [.int v1]) (rest := [.int v3, .ref (ad 1)]) ⟨hx, hb, hml, hown, hts⟩ hK hP hD hS (c_X4_typeOf l D ad cI cJ cZ σ v1 hg_89) (cwV 1 hts gX7_partsFit_X4_typeOf rfl rfl rfl hd_X4_typeOf ⟨Nat.le_trans (Nat.le_of_ble_eq_true rfl) hR.1, Nat.le_trans (Nat.le_of_ble_eq_true rfl) hR.2⟩) rfl (wC_2 _ _ _ _ _) rfl hl.1 rfl (Nat.le_of_ble_eq_true rfl) dX7_partsFit_89 (fun H locs hP hS => ?_)
      obtain ⟨r_92, hg_92, hf⟩ := oc_e hf
      refine mV_ri (wd := wC ad cI cJ cZ) (σ := σ) (As := [.int v3, .int r_89]) (rest := []) ⟨hx, hb, hml, hown, hts⟩ hK hP hD hS (c_X6_isNextAbove l D ad cI cJ cZ σ v3 r_89 hg_92) (cwV 2 hts gX7_partsFit_X6_isNextAbove rfl rfl rfl hd_X6_isNextAbove ⟨Nat.le_trans (Nat.le_of_ble_eq_true rfl) hR.1, Nat.le_trans (Nat.le_of_ble_eq_true rfl) hR.2⟩) rfl (wC_1 _ _ _ _ _) rfl hl.1 rfl (Nat.le_of_ble_eq_true rfl) dX7_partsFit_92 (fun H locs hP hS => ?_)
      refine lv_if_eq (tgt := 102) hx hb dX7_partsFit_95 (by decide) (fun c_95 => ?_) (fun c_95 => ?_)
      · rw [if_pos c_95] at hf
        exact w_X7_partsFit_102 hm hR hK hD σ hf _ _ _ hP hS (lv_sub hl [] rfl)
      · rw [if_neg c_95] at hf
        refine lv_iconst (v := 1) hx hb dX7_partsFit_98 (by decide) ?_
        refine lv_goto (tgt := 103) hx hb dX7_partsFit_99 (by decide) ?_
        exact w_X7_partsFit_103 hm hR hK hD σ 1 hf _ _ _ hP hS (lv_sub hl [] rfl)
  rw [if_neg c_1_2] at hf
  by_cases c_1_3 : v2 = 3
  · rw [if_pos c_1_3] at hf
    refine lv_tableIn (off := 64) (tgt := 65) hx hb dX7_partsFit_1 (by rw [c_1_3]; decide) (by rw [c_1_3]; decide) (by rw [c_1_3]; rfl) (by decide) ?_
    exact w_X7_partsFit_65 hm hR hK hD σ v4 hf _ _ _ hP hS (lv_sub hl [4] rfl)
  rw [if_neg c_1_3] at hf
  by_cases c_1_4 : v2 = 4
  · rw [if_pos c_1_4] at hf
    refine lv_tableIn (off := 103) (tgt := 104) hx hb dX7_partsFit_1 (by rw [c_1_4]; decide) (by rw [c_1_4]; decide) (by rw [c_1_4]; rfl) (by decide) ?_
    refine lv_iconst (v := 1) hx hb dX7_partsFit_104 (by decide) ?_
    exact rt_z (wd := wC ad cI cJ cZ) hx hb hr hlk (Or.inr rfl) ⟨Option.some.inj hf, rfl⟩ hP hS dX7_partsFit_105
  rw [if_neg c_1_4] at hf
  by_cases c_1_5 : v2 = 5
  · rw [if_pos c_1_5] at hf
    refine lv_tableIn (off := 105) (tgt := 106) hx hb dX7_partsFit_1 (by rw [c_1_5]; decide) (by rw [c_1_5]; decide) (by rw [c_1_5]; rfl) (by decide) ?_
    refine lv_iload_n hx hb dX7_partsFit_106 rfl (lv_at hl 3 rfl) ?_
    obtain ⟨r_107, hg_107, hf⟩ := oc_e hf
    refine mS_i (D := D) (As := [.int v3]) (rest := []) ⟨hx, hb, hml, hown, hts⟩ hP hS (c_X7_isBag l v3 hg_107) (va_cwS 1 hts gX7_partsFit_X7_isBag rfl rfl rfl hd_X7_isBag ⟨Nat.le_trans (Nat.le_of_ble_eq_true rfl) hR.1, Nat.le_trans (Nat.le_of_ble_eq_true rfl) hR.2⟩) rfl hl.1 rfl (Nat.le_of_ble_eq_true rfl) dX7_partsFit_107 (fun H locs hP hS => ?_)
    refine lv_if_eq (tgt := 129) hx hb dX7_partsFit_110 (by decide) (fun c_110 => ?_) (fun c_110 => ?_)
    · rw [if_pos c_110] at hf
      exact w_X7_partsFit_129 hm hR hK hD σ hf _ _ _ hP hS (lv_sub hl [] rfl)
    · rw [if_neg c_110] at hf
      refine lv_aload_n hx hb dX7_partsFit_113 rfl (lv_at hl 0 rfl) ?_
      refine va_get (D := D) (ci := 6) (v := .ref (ad 2)) (C := RX7) (T := TX7) (N := 6) hx hb hts in_X7_partsFit_X7 hown hK hP 0 (wC_0 _ _ _ _ _) rfl 1 (by decide) (hts (.fieldLink RX7 21 "CallGraphs" "members" "LCallGraphs$Members;") (List.mem_of_getElem? (i := 2) rfl)) (fun _ h9 => h9) (fC_0_1 _ _) dX7_partsFit_114 ?_
      refine lv_iload hx hb dX7_partsFit_117 (lv_at hl 4 rfl) ?_
      obtain ⟨r_119, hg_119, hf⟩ := oc_e hf
      refine mV_ri (wd := wC ad cI cJ cZ) (σ := σ) (As := [.int v4]) (rest := []) ⟨hx, hb, hml, hown, hts⟩ hK hP hD hS (c_X4_isHandle l D ad cI cJ cZ σ v4 hg_119) (cwV 1 hts gX7_partsFit_X4_isHandle rfl rfl rfl hd_X4_isHandle ⟨Nat.le_trans (Nat.le_of_ble_eq_true rfl) hR.1, Nat.le_trans (Nat.le_of_ble_eq_true rfl) hR.2⟩) rfl (wC_2 _ _ _ _ _) rfl hl.1 rfl (Nat.le_of_ble_eq_true rfl) dX7_partsFit_119 (fun H locs hP hS => ?_)
      refine lv_if_eq (tgt := 129) hx hb dX7_partsFit_122 (by decide) (fun c_122 => ?_) (fun c_122 => ?_)
      · rw [if_pos c_122] at hf
        exact w_X7_partsFit_129 hm hR hK hD σ hf _ _ _ hP hS (lv_sub hl [] rfl)
      · rw [if_neg c_122] at hf
        refine lv_iconst (v := 1) hx hb dX7_partsFit_125 (by decide) ?_
        refine lv_goto (tgt := 130) hx hb dX7_partsFit_126 (by decide) ?_
        exact w_X7_partsFit_130 hm hR hK hD σ 1 hf _ _ _ hP hS (lv_sub hl [] rfl)
  rw [if_neg c_1_5] at hf
  by_cases c_1_6 : v2 = 6
  · rw [if_pos c_1_6] at hf
    refine lv_tableIn (off := 130) (tgt := 131) hx hb dX7_partsFit_1 (by rw [c_1_6]; decide) (by rw [c_1_6]; decide) (by rw [c_1_6]; rfl) (by decide) ?_
    refine lv_iload_n hx hb dX7_partsFit_131 rfl (lv_at hl 3 rfl) ?_
    obtain ⟨r_132, hg_132, hf⟩ := oc_e hf
    refine mS_i (D := D) (As := [.int v3]) (rest := []) ⟨hx, hb, hml, hown, hts⟩ hP hS (c_X7_isBag l v3 hg_132) (va_cwS 1 hts gX7_partsFit_X7_isBag rfl rfl rfl hd_X7_isBag ⟨Nat.le_trans (Nat.le_of_ble_eq_true rfl) hR.1, Nat.le_trans (Nat.le_of_ble_eq_true rfl) hR.2⟩) rfl hl.1 rfl (Nat.le_of_ble_eq_true rfl) dX7_partsFit_132 (fun H locs hP hS => ?_)
    obtain ⟨h_135, hf⟩ := ob_e hf
    exact rt_z (wd := wC ad cI cJ cZ) hx hb hr hlk h_135 ⟨Option.some.inj hf, rfl⟩ hP hS dX7_partsFit_135
  rw [if_neg c_1_6] at hf
  by_cases c_1_7 : v2 = 7
  · rw [if_pos c_1_7] at hf
    refine lv_tableIn (off := 135) (tgt := 136) hx hb dX7_partsFit_1 (by rw [c_1_7]; decide) (by rw [c_1_7]; decide) (by rw [c_1_7]; rfl) (by decide) ?_
    refine lv_iload hx hb dX7_partsFit_136 (lv_at hl 4 rfl) ?_
    obtain ⟨r_138, hg_138, hf⟩ := oc_e hf
    refine mS_i (D := D) (As := [.int v4]) (rest := []) ⟨hx, hb, hml, hown, hts⟩ hP hS (c_X7_isName l v4 hg_138) (va_cwS 1 hts gX7_partsFit_X7_isName rfl rfl rfl hd_X7_isName ⟨Nat.le_trans (Nat.le_of_ble_eq_true rfl) hR.1, Nat.le_trans (Nat.le_of_ble_eq_true rfl) hR.2⟩) rfl hl.1 rfl (Nat.le_of_ble_eq_true rfl) dX7_partsFit_138 (fun H locs hP hS => ?_)
    obtain ⟨h_141, hf⟩ := ob_e hf
    exact rt_z (wd := wC ad cI cJ cZ) hx hb hr hlk h_141 ⟨Option.some.inj hf, rfl⟩ hP hS dX7_partsFit_141
  rw [if_neg c_1_7] at hf
  refine lv_tableOut (tgt := 142) hx hb dX7_partsFit_1 (by have g0 := lv_neT c_1_0 (a := 0) (by decide); have g1 := lv_neT c_1_1 (a := 1) (by decide); have g2 := lv_neT c_1_2 (a := 2) (by decide); have g3 := lv_neT c_1_3 (a := 3) (by decide); have g4 := lv_neT c_1_4 (a := 4) (by decide); have g5 := lv_neT c_1_5 (a := 5) (by decide); have g6 := lv_neT c_1_6 (a := 6) (by decide); have g7 := lv_neT c_1_7 (a := 7) (by decide); omega) (by decide) ?_
  refine lv_iconst (v := 0) hx hb dX7_partsFit_142 (by decide) ?_
  exact rt_z (wd := wC ad cI cJ cZ) hx hb hr hlk (Or.inl rfl) ⟨Option.some.inj hf, rfl⟩ hP hS dX7_partsFit_143
theorem hd_X7_partsFit : yX7_partsFit.cls = RX7 ∧ yX7_partsFit.cls ≠ "java/lang/invoke/MethodHandle" ∧ yX7_partsFit.cls ≠ "java/lang/invoke/VarHandle" ∧ (parseMethodDescriptor yX7_partsFit.desc).map (fun d => d.parameters.length) = some 4 := by decide +kernel
set_option maxHeartbeats 4000000 in
set_option maxRecDepth 100000 in
theorem c_X7_partsFit (l : Launch) (D : va_G) (ad : Nat → Nat) (cI cJ cZ : ClassId) (σ : SS) (v1 : Int32) (v2 : Int32) (v3 : Int32) (v4 : Int32) {res : Int32} (hf : p_X7_partsFit_0 σ v1 v2 v3 v4 = some res) : Met l yX7_partsFit wsX7_partsFit ({ frames := 3, cells := 0, slots := 0, locals := 66 } : Room) (PW D (tyw cI cJ cZ) (wC ad cI cJ cZ σ) [.ref (ad 0), .int v1, .int v2, .int v3, .int v4]) (va_Qi (fun (r : Int32) (u : SS) => r = res ∧ u = σ) (fun u t => va_P D vwCl (wC ad cI cJ cZ u) t.heap) (aC ad)) 0 0 (aC ad) := by
  refine Met.ofW (cc := cX7_partsFit) (maxL := 5) (ret := (some .boolean)) (by decide) rfl ?_
  intro p e s m args below meth c s₁ B hml hv
  obtain ⟨rfl, hP, hK, hD0⟩ := hv
  have hD : ∀ σ, va_D (aC ad) (wC ad cI cJ cZ σ) := fun σ => wd_D hD0 (wC_map _ _ _ _ _) (wC_map _ _ _ _ _)
  have hm : mx p s m _ meth c cX7_partsFit 5 (some .boolean) wsX7_partsFit RX7 := ⟨B.exec, B.bytes, B.returns, hml, findClass_of_methodNamed B.named, atoms_spec (ws := wsX7_partsFit) B.pre, B.notSynchronized⟩
  have hl := lv_entry ([.ref (ad 0), .int v1, .int v2, .int v3, .int v4]) (n := 5) (Nat.le_of_ble_eq_true rfl)
  rw [lg_entry_eq]
  generalize (lg_sl ([.ref (ad 0), .int v1, .int v2, .int v3, .int v4]) ++ List.replicate (5 - (lg_sl ([.ref (ad 0), .int v1, .int v2, .int v3, .int v4])).length) Slot.unset).toArray = ls at hl ⊢
  exact w_X7_partsFit_0 hm ⟨Nat.le_refl _, Nat.le_refl _⟩ hK hD σ v1 v2 v3 v4 hf _ _ _ hP va_S.rf hl
/-! CallGraphs.partsKnown(III)Z -/
theorem in_X7_partsKnown_X7 : ∀ w ∈ u_ws RX7 TX7 6, w ∈ wsX7_partsKnown := fun w h => List.mem_cons_of_mem _ (List.mem_append_left _ (List.mem_append_left _ (List.mem_append_right _ h)))
def p_X7_partsKnown_40 (σ : SS) (v2 : Int32) : Option (Int32) := oc (p_X6_knows_0 σ v2) (fun r_45 => ob r_45 (some r_45))
set_option maxHeartbeats 4000000 in
set_option maxRecDepth 100000 in
theorem w_X7_partsKnown_40 {p : Program} {l : Launch} {e : Env} {R : Room} {s : State} {m : MethodId} {args : Array Value} {below : List Frame} {meth : Method} {c : Code} {D : va_G} {ad : Nat → Nat} {cI cJ cZ : ClassId} {res : Int32} (hm : mx p s m args meth c cX7_partsKnown 4 (some .boolean) wsX7_partsKnown RX7) (hR : 1 ≤ R.frames ∧ 21 ≤ R.locals) (hK : va_K D vwCl (tyw cI cJ cZ) s) (hD : ∀ σ, va_D (aC ad) (wC ad cI cJ cZ σ)) (σ : SS) (v2 : Int32) (hf : p_X7_partsKnown_40 σ v2 = some res) (H : Heap) (locs : List Loc) (ls : Array Slot) (hP : va_P D vwCl (wC ad cI cJ cZ σ) H) (hS : va_S (aC ad) s.heap H locs) (hl : lv_has ls 4 [(0, .ref (ad 0)), (2, .int v2)]) : W p l e R s m args below meth c H locs 0 0 (MQ below (va_Qi (fun (r : Int32) (u : SS) => r = res ∧ u = σ) (fun u t => va_P D vwCl (wC ad cI cJ cZ u) t.heap) (aC ad)) args s 0 0 (aC ad)) (F0 m 40 ls []) := by
  obtain ⟨hx, hb, hr, hml, hown, hts, hlk⟩ := id hm
  unfold p_X7_partsKnown_40 at hf
  refine lv_aload_n hx hb dX7_partsKnown_40 rfl (lv_at hl 0 rfl) ?_
  refine va_get (D := D) (ci := 6) (v := .ref (ad 1)) (C := RX7) (T := TX7) (N := 6) hx hb hts in_X7_partsKnown_X7 hown hK hP 0 (wC_0 _ _ _ _ _) rfl 0 (by decide) (hts (.fieldLink RX7 10 "CallGraphs" "types" "LCallGraphs$Types;") (List.mem_of_getElem? (i := 1) rfl)) (fun _ h9 => h9) (fC_0_0 _ _) dX7_partsKnown_41 ?_
  refine lv_iload_n hx hb dX7_partsKnown_44 rfl (lv_at hl 1 rfl) ?_
  obtain ⟨r_45, hg_45, hf⟩ := oc_e hf
  refine mV_ri (wd := wC ad cI cJ cZ) (σ := σ) (As := [.int v2]) (rest := []) ⟨hx, hb, hml, hown, hts⟩ hK hP hD hS (c_X6_knows l D ad cI cJ cZ σ v2 hg_45) (cwV 1 hts gX7_partsKnown_X6_knows rfl rfl rfl hd_X6_knows ⟨Nat.le_trans (Nat.le_of_ble_eq_true rfl) hR.1, Nat.le_trans (Nat.le_of_ble_eq_true rfl) hR.2⟩) rfl (wC_1 _ _ _ _ _) rfl hl.1 rfl (Nat.le_of_ble_eq_true rfl) dX7_partsKnown_45 (fun H locs hP hS => ?_)
  obtain ⟨h_48, hf⟩ := ob_e hf
  exact rt_z (wd := wC ad cI cJ cZ) hx hb hr hlk h_48 ⟨Option.some.inj hf, rfl⟩ hP hS dX7_partsKnown_48
def p_X7_partsKnown_0 (σ : SS) (v1 : Int32) (v2 : Int32) (v3 : Int32) : Option (Int32) := (if v1 = 0 then p_X7_partsKnown_40 σ v2 else if v1 = 1 then p_X7_partsKnown_40 σ v2 else if v1 = 2 then p_X7_partsKnown_40 σ v2 else if v1 = 3 then p_X7_partsKnown_40 σ v2 else if v1 = 4 then p_X7_partsKnown_40 σ v2 else if v1 = 5 then oc (p_X4_knows_0 σ v3) (fun r_54 => ob r_54 (some r_54)) else some 1)
set_option maxHeartbeats 4000000 in
set_option maxRecDepth 100000 in
theorem w_X7_partsKnown_0 {p : Program} {l : Launch} {e : Env} {R : Room} {s : State} {m : MethodId} {args : Array Value} {below : List Frame} {meth : Method} {c : Code} {D : va_G} {ad : Nat → Nat} {cI cJ cZ : ClassId} {res : Int32} (hm : mx p s m args meth c cX7_partsKnown 4 (some .boolean) wsX7_partsKnown RX7) (hR : 1 ≤ R.frames ∧ 21 ≤ R.locals) (hK : va_K D vwCl (tyw cI cJ cZ) s) (hD : ∀ σ, va_D (aC ad) (wC ad cI cJ cZ σ)) (σ : SS) (v1 : Int32) (v2 : Int32) (v3 : Int32) (hf : p_X7_partsKnown_0 σ v1 v2 v3 = some res) (H : Heap) (locs : List Loc) (ls : Array Slot) (hP : va_P D vwCl (wC ad cI cJ cZ σ) H) (hS : va_S (aC ad) s.heap H locs) (hl : lv_has ls 4 [(0, .ref (ad 0)), (1, .int v1), (2, .int v2), (3, .int v3)]) : W p l e R s m args below meth c H locs 0 0 (MQ below (va_Qi (fun (r : Int32) (u : SS) => r = res ∧ u = σ) (fun u t => va_P D vwCl (wC ad cI cJ cZ u) t.heap) (aC ad)) args s 0 0 (aC ad)) (F0 m 0 ls []) := by
  obtain ⟨hx, hb, hr, hml, hown, hts, hlk⟩ := id hm
  unfold p_X7_partsKnown_0 at hf
  refine lv_iload_n hx hb dX7_partsKnown_0 rfl (lv_at hl 1 rfl) ?_
  by_cases c_1_0 : v1 = 0
  · rw [if_pos c_1_0] at hf
    refine lv_tableIn (off := 39) (tgt := 40) hx hb dX7_partsKnown_1 (by rw [c_1_0]; decide) (by rw [c_1_0]; decide) (by rw [c_1_0]; rfl) (by decide) ?_
    exact w_X7_partsKnown_40 hm hR hK hD σ v2 hf _ _ _ hP hS (lv_sub hl [0, 2] rfl)
  rw [if_neg c_1_0] at hf
  by_cases c_1_1 : v1 = 1
  · rw [if_pos c_1_1] at hf
    refine lv_tableIn (off := 39) (tgt := 40) hx hb dX7_partsKnown_1 (by rw [c_1_1]; decide) (by rw [c_1_1]; decide) (by rw [c_1_1]; rfl) (by decide) ?_
    exact w_X7_partsKnown_40 hm hR hK hD σ v2 hf _ _ _ hP hS (lv_sub hl [0, 2] rfl)
  rw [if_neg c_1_1] at hf
  by_cases c_1_2 : v1 = 2
  · rw [if_pos c_1_2] at hf
    refine lv_tableIn (off := 39) (tgt := 40) hx hb dX7_partsKnown_1 (by rw [c_1_2]; decide) (by rw [c_1_2]; decide) (by rw [c_1_2]; rfl) (by decide) ?_
    exact w_X7_partsKnown_40 hm hR hK hD σ v2 hf _ _ _ hP hS (lv_sub hl [0, 2] rfl)
  rw [if_neg c_1_2] at hf
  by_cases c_1_3 : v1 = 3
  · rw [if_pos c_1_3] at hf
    refine lv_tableIn (off := 39) (tgt := 40) hx hb dX7_partsKnown_1 (by rw [c_1_3]; decide) (by rw [c_1_3]; decide) (by rw [c_1_3]; rfl) (by decide) ?_
    exact w_X7_partsKnown_40 hm hR hK hD σ v2 hf _ _ _ hP hS (lv_sub hl [0, 2] rfl)
  rw [if_neg c_1_3] at hf
  by_cases c_1_4 : v1 = 4
  · rw [if_pos c_1_4] at hf
    refine lv_tableIn (off := 39) (tgt := 40) hx hb dX7_partsKnown_1 (by rw [c_1_4]; decide) (by rw [c_1_4]; decide) (by rw [c_1_4]; rfl) (by decide) ?_
    exact w_X7_partsKnown_40 hm hR hK hD σ v2 hf _ _ _ hP hS (lv_sub hl [0, 2] rfl)
  rw [if_neg c_1_4] at hf
  by_cases c_1_5 : v1 = 5
  · rw [if_pos c_1_5] at hf
    refine lv_tableIn (off := 48) (tgt := 49) hx hb dX7_partsKnown_1 (by rw [c_1_5]; decide) (by rw [c_1_5]; decide) (by rw [c_1_5]; rfl) (by decide) ?_
    refine lv_aload_n hx hb dX7_partsKnown_49 rfl (lv_at hl 0 rfl) ?_
    refine va_get (D := D) (ci := 6) (v := .ref (ad 2)) (C := RX7) (T := TX7) (N := 6) hx hb hts in_X7_partsKnown_X7 hown hK hP 0 (wC_0 _ _ _ _ _) rfl 1 (by decide) (hts (.fieldLink RX7 21 "CallGraphs" "members" "LCallGraphs$Members;") (List.mem_of_getElem? (i := 2) rfl)) (fun _ h9 => h9) (fC_0_1 _ _) dX7_partsKnown_50 ?_
    refine lv_iload_n hx hb dX7_partsKnown_53 rfl (lv_at hl 3 rfl) ?_
    obtain ⟨r_54, hg_54, hf⟩ := oc_e hf
    refine mV_ri (wd := wC ad cI cJ cZ) (σ := σ) (As := [.int v3]) (rest := []) ⟨hx, hb, hml, hown, hts⟩ hK hP hD hS (c_X4_knows l D ad cI cJ cZ σ v3 hg_54) (cwV 1 hts gX7_partsKnown_X4_knows rfl rfl rfl hd_X4_knows ⟨Nat.le_trans (Nat.le_of_ble_eq_true rfl) hR.1, Nat.le_trans (Nat.le_of_ble_eq_true rfl) hR.2⟩) rfl (wC_2 _ _ _ _ _) rfl hl.1 rfl (Nat.le_of_ble_eq_true rfl) dX7_partsKnown_54 (fun H locs hP hS => ?_)
    obtain ⟨h_57, hf⟩ := ob_e hf
    exact rt_z (wd := wC ad cI cJ cZ) hx hb hr hlk h_57 ⟨Option.some.inj hf, rfl⟩ hP hS dX7_partsKnown_57
  rw [if_neg c_1_5] at hf
  refine lv_tableOut (tgt := 58) hx hb dX7_partsKnown_1 (by have g0 := lv_neT c_1_0 (a := 0) (by decide); have g1 := lv_neT c_1_1 (a := 1) (by decide); have g2 := lv_neT c_1_2 (a := 2) (by decide); have g3 := lv_neT c_1_3 (a := 3) (by decide); have g4 := lv_neT c_1_4 (a := 4) (by decide); have g5 := lv_neT c_1_5 (a := 5) (by decide); omega) (by decide) ?_
  refine lv_iconst (v := 1) hx hb dX7_partsKnown_58 (by decide) ?_
  exact rt_z (wd := wC ad cI cJ cZ) hx hb hr hlk (Or.inr rfl) ⟨Option.some.inj hf, rfl⟩ hP hS dX7_partsKnown_59
theorem hd_X7_partsKnown : yX7_partsKnown.cls = RX7 ∧ yX7_partsKnown.cls ≠ "java/lang/invoke/MethodHandle" ∧ yX7_partsKnown.cls ≠ "java/lang/invoke/VarHandle" ∧ (parseMethodDescriptor yX7_partsKnown.desc).map (fun d => d.parameters.length) = some 3 := by decide +kernel
set_option maxHeartbeats 4000000 in
set_option maxRecDepth 100000 in
theorem c_X7_partsKnown (l : Launch) (D : va_G) (ad : Nat → Nat) (cI cJ cZ : ClassId) (σ : SS) (v1 : Int32) (v2 : Int32) (v3 : Int32) {res : Int32} (hf : p_X7_partsKnown_0 σ v1 v2 v3 = some res) : Met l yX7_partsKnown wsX7_partsKnown ({ frames := 1, cells := 0, slots := 0, locals := 21 } : Room) (PW D (tyw cI cJ cZ) (wC ad cI cJ cZ σ) [.ref (ad 0), .int v1, .int v2, .int v3]) (va_Qi (fun (r : Int32) (u : SS) => r = res ∧ u = σ) (fun u t => va_P D vwCl (wC ad cI cJ cZ u) t.heap) (aC ad)) 0 0 (aC ad) := by
  refine Met.ofW (cc := cX7_partsKnown) (maxL := 4) (ret := (some .boolean)) (by decide) rfl ?_
  intro p e s m args below meth c s₁ B hml hv
  obtain ⟨rfl, hP, hK, hD0⟩ := hv
  have hD : ∀ σ, va_D (aC ad) (wC ad cI cJ cZ σ) := fun σ => wd_D hD0 (wC_map _ _ _ _ _) (wC_map _ _ _ _ _)
  have hm : mx p s m _ meth c cX7_partsKnown 4 (some .boolean) wsX7_partsKnown RX7 := ⟨B.exec, B.bytes, B.returns, hml, findClass_of_methodNamed B.named, atoms_spec (ws := wsX7_partsKnown) B.pre, B.notSynchronized⟩
  have hl := lv_entry ([.ref (ad 0), .int v1, .int v2, .int v3]) (n := 4) (Nat.le_of_ble_eq_true rfl)
  rw [lg_entry_eq]
  generalize (lg_sl ([.ref (ad 0), .int v1, .int v2, .int v3]) ++ List.replicate (4 - (lg_sl ([.ref (ad 0), .int v1, .int v2, .int v3])).length) Slot.unset).toArray = ls at hl ⊢
  exact w_X7_partsKnown_0 hm ⟨Nat.le_refl _, Nat.le_refl _⟩ hK hD σ v1 v2 v3 hf _ _ _ hP va_S.rf hl
/-! CallGraphs.op(IIII)I -/
theorem in_X7_op_X7 : ∀ w ∈ u_ws RX7 TX7 6, w ∈ wsX7_op := fun w h => List.mem_cons_of_mem _ (List.mem_append_left _ (List.mem_append_left _ (List.mem_append_left _ (List.mem_append_left _ (List.mem_append_right _ h)))))
def p_X7_op_22 (σ : SS) : Option (Int32 × SS) := some ((-101), σ)
set_option maxHeartbeats 4000000 in
set_option maxRecDepth 100000 in
theorem w_X7_op_22 {p : Program} {l : Launch} {e : Env} {R : Room} {s : State} {m : MethodId} {args : Array Value} {below : List Frame} {meth : Method} {c : Code} {D : va_G} {ad : Nat → Nat} {cI cJ cZ : ClassId} {res : Int32 × SS} (hm : mx p s m args meth c cX7_op 5 (some .int) wsX7_op RX7) (hR : 4 ≤ R.frames ∧ 90 ≤ R.locals) (hK : va_K D vwCl (tyw cI cJ cZ) s) (hD : ∀ σ, va_D (aC ad) (wC ad cI cJ cZ σ)) (σ : SS) (hf : p_X7_op_22 σ = some res) (H : Heap) (locs : List Loc) (ls : Array Slot) (hP : va_P D vwCl (wC ad cI cJ cZ σ) H) (hS : va_S (aC ad) s.heap H locs) (hl : lv_has ls 5 []) : W p l e R s m args below meth c H locs 0 0 (MQ below (va_Qi (fun (r : Int32) (u : SS) => (r, u) = res) (fun u t => va_P D vwCl (wC ad cI cJ cZ u) t.heap) (aC ad)) args s 0 0 (aC ad)) (F0 m 22 ls []) := by
  obtain ⟨hx, hb, hr, hml, hown, hts, hlk⟩ := id hm
  unfold p_X7_op_22 at hf
  refine lv_bipush (v := (-101)) hx hb dX7_op_22 (by decide) ?_
  exact rt_i (wd := wC ad cI cJ cZ) hx hb hr hlk (Option.some.inj hf) hP hS dX7_op_24
def p_X7_op_81 (σ : SS) : Option (Int32 × SS) := some ((-104), σ)
set_option maxHeartbeats 4000000 in
set_option maxRecDepth 100000 in
theorem w_X7_op_81 {p : Program} {l : Launch} {e : Env} {R : Room} {s : State} {m : MethodId} {args : Array Value} {below : List Frame} {meth : Method} {c : Code} {D : va_G} {ad : Nat → Nat} {cI cJ cZ : ClassId} {res : Int32 × SS} (hm : mx p s m args meth c cX7_op 5 (some .int) wsX7_op RX7) (hR : 4 ≤ R.frames ∧ 90 ≤ R.locals) (hK : va_K D vwCl (tyw cI cJ cZ) s) (hD : ∀ σ, va_D (aC ad) (wC ad cI cJ cZ σ)) (σ : SS) (hf : p_X7_op_81 σ = some res) (H : Heap) (locs : List Loc) (ls : Array Slot) (hP : va_P D vwCl (wC ad cI cJ cZ σ) H) (hS : va_S (aC ad) s.heap H locs) (hl : lv_has ls 5 []) : W p l e R s m args below meth c H locs 0 0 (MQ below (va_Qi (fun (r : Int32) (u : SS) => (r, u) = res) (fun u t => va_P D vwCl (wC ad cI cJ cZ u) t.heap) (aC ad)) args s 0 0 (aC ad)) (F0 m 81 ls []) := by
  obtain ⟨hx, hb, hr, hml, hown, hts, hlk⟩ := id hm
  unfold p_X7_op_81 at hf
  refine lv_bipush (v := (-104)) hx hb dX7_op_81 (by decide) ?_
  exact rt_i (wd := wC ad cI cJ cZ) hx hb hr hlk (Option.some.inj hf) hP hS dX7_op_83
def p_X7_op_110 (t0 : Int32) (t1 : Int32) (t2 : Int32) (t3 : Int32) (σ : SS) : Option (Int32 × SS) := oc (p_X5_add_0 t3 t2 t1 t0 σ) (fun r_110 => some (r_110.1, r_110.2))
set_option maxHeartbeats 4000000 in
set_option maxRecDepth 100000 in
theorem w_X7_op_110 {p : Program} {l : Launch} {e : Env} {R : Room} {s : State} {m : MethodId} {args : Array Value} {below : List Frame} {meth : Method} {c : Code} {D : va_G} {ad : Nat → Nat} {cI cJ cZ : ClassId} {res : Int32 × SS} (hm : mx p s m args meth c cX7_op 5 (some .int) wsX7_op RX7) (hR : 4 ≤ R.frames ∧ 90 ≤ R.locals) (hK : va_K D vwCl (tyw cI cJ cZ) s) (hD : ∀ σ, va_D (aC ad) (wC ad cI cJ cZ σ)) (t0 : Int32) (t1 : Int32) (t2 : Int32) (t3 : Int32) (σ : SS) (hf : p_X7_op_110 t0 t1 t2 t3 σ = some res) (H : Heap) (locs : List Loc) (ls : Array Slot) (hP : va_P D vwCl (wC ad cI cJ cZ σ) H) (hS : va_S (aC ad) s.heap H locs) (hl : lv_has ls 5 []) : W p l e R s m args below meth c H locs 0 0 (MQ below (va_Qi (fun (r : Int32) (u : SS) => (r, u) = res) (fun u t => va_P D vwCl (wC ad cI cJ cZ u) t.heap) (aC ad)) args s 0 0 (aC ad)) (F0 m 110 ls [.int t0, .int t1, .int t2, .int t3, .ref (ad 4)]) := by
  obtain ⟨hx, hb, hr, hml, hown, hts, hlk⟩ := id hm
  unfold p_X7_op_110 at hf
  obtain ⟨r_110, hg_110, hf⟩ := oc_e hf
  refine mV_wi (wd := wC ad cI cJ cZ) (σ := σ) (As := [.int t3, .int t2, .int t1, .int t0]) (rest := []) ⟨hx, hb, hml, hown, hts⟩ hK hP hD hS (c_X5_add l D ad cI cJ cZ σ t3 t2 t1 t0 hg_110) (cwV 4 hts gX7_op_X5_add rfl rfl rfl hd_X5_add ⟨Nat.le_trans (Nat.le_of_ble_eq_true rfl) hR.1, Nat.le_trans (Nat.le_of_ble_eq_true rfl) hR.2⟩) rfl (wC_4 _ _ _ _ _) rfl hl.1 rfl (Nat.le_of_ble_eq_true rfl) dX7_op_110 (fun H locs hP hS => ?_)
  exact rt_i (wd := wC ad cI cJ cZ) hx hb hr hlk (Option.some.inj hf) hP hS dX7_op_113
def p_X7_op_0 (v1 : Int32) (v2 : Int32) (v3 : Int32) (v4 : Int32) (σ : SS) : Option (Int32 × SS) := oc (p_X4_knows_0 σ v1) (fun r_5 => if r_5 = 0 then p_X7_op_22 σ else oc (p_X7_partsKnown_0 σ v2 v3 v4) (fun r_16 => if r_16 = 0 then p_X7_op_22 σ else oc (p_X7_partsFit_0 σ v1 v2 v3 v4) (fun r_31 => if r_31 = 0 then some ((-102), σ) else oc (p_X4_sortOf_0 σ v1) (fun r_45 => if r_45 = 1 then some ((-103), σ) else oc (p_X5_sizeOf_0 σ v1) (fun r_60 => if 24 ≤ r_60 then p_X7_op_81 σ else oc (p_X5_size_0 σ) (fun r_72 => if r_72 < 160 then oc (p_X3_forget_0 σ) (fun r_88 => if v2 = 4 then p_X7_op_110 9 v3 v2 v1 r_88 else p_X7_op_110 v4 v3 v2 v1 r_88) else p_X7_op_81 σ))))))
set_option maxHeartbeats 4000000 in
set_option maxRecDepth 100000 in
theorem w_X7_op_0 {p : Program} {l : Launch} {e : Env} {R : Room} {s : State} {m : MethodId} {args : Array Value} {below : List Frame} {meth : Method} {c : Code} {D : va_G} {ad : Nat → Nat} {cI cJ cZ : ClassId} {res : Int32 × SS} (hm : mx p s m args meth c cX7_op 5 (some .int) wsX7_op RX7) (hR : 4 ≤ R.frames ∧ 90 ≤ R.locals) (hK : va_K D vwCl (tyw cI cJ cZ) s) (hD : ∀ σ, va_D (aC ad) (wC ad cI cJ cZ σ)) (v1 : Int32) (v2 : Int32) (v3 : Int32) (v4 : Int32) (σ : SS) (hf : p_X7_op_0 v1 v2 v3 v4 σ = some res) (H : Heap) (locs : List Loc) (ls : Array Slot) (hP : va_P D vwCl (wC ad cI cJ cZ σ) H) (hS : va_S (aC ad) s.heap H locs) (hl : lv_has ls 5 [(0, .ref (ad 0)), (1, .int v1), (2, .int v2), (3, .int v3), (4, .int v4)]) : W p l e R s m args below meth c H locs 0 0 (MQ below (va_Qi (fun (r : Int32) (u : SS) => (r, u) = res) (fun u t => va_P D vwCl (wC ad cI cJ cZ u) t.heap) (aC ad)) args s 0 0 (aC ad)) (F0 m 0 ls []) := by
  obtain ⟨hx, hb, hr, hml, hown, hts, hlk⟩ := id hm
  unfold p_X7_op_0 at hf
  refine lv_aload_n hx hb dX7_op_0 rfl (lv_at hl 0 rfl) ?_
  refine va_get (D := D) (ci := 6) (v := .ref (ad 2)) (C := RX7) (T := TX7) (N := 6) hx hb hts in_X7_op_X7 hown hK hP 0 (wC_0 _ _ _ _ _) rfl 1 (by decide) (hts (.fieldLink RX7 21 "CallGraphs" "members" "LCallGraphs$Members;") (List.mem_of_getElem? (i := 1) rfl)) (fun _ h9 => h9) (fC_0_1 _ _) dX7_op_1 ?_
  refine lv_iload_n hx hb dX7_op_4 rfl (lv_at hl 1 rfl) ?_
  obtain ⟨r_5, hg_5, hf⟩ := oc_e hf
  refine mV_ri (wd := wC ad cI cJ cZ) (σ := σ) (As := [.int v1]) (rest := []) ⟨hx, hb, hml, hown, hts⟩ hK hP hD hS (c_X4_knows l D ad cI cJ cZ σ v1 hg_5) (cwV 1 hts gX7_op_X4_knows rfl rfl rfl hd_X4_knows ⟨Nat.le_trans (Nat.le_of_ble_eq_true rfl) hR.1, Nat.le_trans (Nat.le_of_ble_eq_true rfl) hR.2⟩) rfl (wC_2 _ _ _ _ _) rfl hl.1 rfl (Nat.le_of_ble_eq_true rfl) dX7_op_5 (fun H locs hP hS => ?_)
  refine lv_if_eq (tgt := 22) hx hb dX7_op_8 (by decide) (fun c_8 => ?_) (fun c_8 => ?_)
  · rw [if_pos c_8] at hf
    exact w_X7_op_22 hm hR hK hD σ hf _ _ _ hP hS (lv_sub hl [] rfl)
  · rw [if_neg c_8] at hf
    refine lv_aload_n hx hb dX7_op_11 rfl (lv_at hl 0 rfl) ?_
    refine lv_iload_n hx hb dX7_op_12 rfl (lv_at hl 2 rfl) ?_
    refine lv_iload_n hx hb dX7_op_13 rfl (lv_at hl 3 rfl) ?_
    refine lv_iload hx hb dX7_op_14 (lv_at hl 4 rfl) ?_
    obtain ⟨r_16, hg_16, hf⟩ := oc_e hf
    refine mV_ri (wd := wC ad cI cJ cZ) (σ := σ) (As := [.int v2, .int v3, .int v4]) (rest := []) ⟨hx, hb, hml, hown, hts⟩ hK hP hD hS (c_X7_partsKnown l D ad cI cJ cZ σ v2 v3 v4 hg_16) (cwV 3 hts gX7_op_X7_partsKnown rfl rfl rfl hd_X7_partsKnown ⟨Nat.le_trans (Nat.le_of_ble_eq_true rfl) hR.1, Nat.le_trans (Nat.le_of_ble_eq_true rfl) hR.2⟩) rfl (wC_0 _ _ _ _ _) rfl hl.1 rfl (Nat.le_of_ble_eq_true rfl) dX7_op_16 (fun H locs hP hS => ?_)
    refine lv_if_ne (tgt := 25) hx hb dX7_op_19 (by decide) (fun c_19 => ?_) (fun c_19 => ?_)
    · rw [if_neg c_19] at hf
      refine lv_aload_n hx hb dX7_op_25 rfl (lv_at hl 0 rfl) ?_
      refine lv_iload_n hx hb dX7_op_26 rfl (lv_at hl 1 rfl) ?_
      refine lv_iload_n hx hb dX7_op_27 rfl (lv_at hl 2 rfl) ?_
      refine lv_iload_n hx hb dX7_op_28 rfl (lv_at hl 3 rfl) ?_
      refine lv_iload hx hb dX7_op_29 (lv_at hl 4 rfl) ?_
      obtain ⟨r_31, hg_31, hf⟩ := oc_e hf
      refine mV_ri (wd := wC ad cI cJ cZ) (σ := σ) (As := [.int v1, .int v2, .int v3, .int v4]) (rest := []) ⟨hx, hb, hml, hown, hts⟩ hK hP hD hS (c_X7_partsFit l D ad cI cJ cZ σ v1 v2 v3 v4 hg_31) (cwV 4 hts gX7_op_X7_partsFit rfl rfl rfl hd_X7_partsFit ⟨Nat.le_trans (Nat.le_of_ble_eq_true rfl) hR.1, Nat.le_trans (Nat.le_of_ble_eq_true rfl) hR.2⟩) rfl (wC_0 _ _ _ _ _) rfl hl.1 rfl (Nat.le_of_ble_eq_true rfl) dX7_op_31 (fun H locs hP hS => ?_)
      refine lv_if_ne (tgt := 40) hx hb dX7_op_34 (by decide) (fun c_34 => ?_) (fun c_34 => ?_)
      · rw [if_neg c_34] at hf
        refine lv_aload_n hx hb dX7_op_40 rfl (lv_at hl 0 rfl) ?_
        refine va_get (D := D) (ci := 6) (v := .ref (ad 2)) (C := RX7) (T := TX7) (N := 6) hx hb hts in_X7_op_X7 hown hK hP 0 (wC_0 _ _ _ _ _) rfl 1 (by decide) (hts (.fieldLink RX7 21 "CallGraphs" "members" "LCallGraphs$Members;") (List.mem_of_getElem? (i := 1) rfl)) (fun _ h9 => h9) (fC_0_1 _ _) dX7_op_41 ?_
        refine lv_iload_n hx hb dX7_op_44 rfl (lv_at hl 1 rfl) ?_
        obtain ⟨r_45, hg_45, hf⟩ := oc_e hf
        refine mV_ri (wd := wC ad cI cJ cZ) (σ := σ) (As := [.int v1]) (rest := []) ⟨hx, hb, hml, hown, hts⟩ hK hP hD hS (c_X4_sortOf l D ad cI cJ cZ σ v1 hg_45) (cwV 1 hts gX7_op_X4_sortOf rfl rfl rfl hd_X4_sortOf ⟨Nat.le_trans (Nat.le_of_ble_eq_true rfl) hR.1, Nat.le_trans (Nat.le_of_ble_eq_true rfl) hR.2⟩) rfl (wC_2 _ _ _ _ _) rfl hl.1 rfl (Nat.le_of_ble_eq_true rfl) dX7_op_45 (fun H locs hP hS => ?_)
        refine lv_iconst (v := 1) hx hb dX7_op_48 (by decide) ?_
        refine lv_icmp_ne (tgt := 55) hx hb dX7_op_49 (by decide) (fun c_49 => ?_) (fun c_49 => ?_)
        · rw [if_neg c_49] at hf
          refine lv_aload_n hx hb dX7_op_55 rfl (lv_at hl 0 rfl) ?_
          refine va_get (D := D) (ci := 6) (v := .ref (ad 4)) (C := RX7) (T := TX7) (N := 6) hx hb hts in_X7_op_X7 hown hK hP 0 (wC_0 _ _ _ _ _) rfl 3 (by decide) (hts (.fieldLink RX7 37 "CallGraphs" "ops" "LCallGraphs$Ops;") (List.mem_of_getElem? (i := 2) rfl)) (fun _ h9 => h9) (fC_0_3 _ _) dX7_op_56 ?_
          refine lv_iload_n hx hb dX7_op_59 rfl (lv_at hl 1 rfl) ?_
          obtain ⟨r_60, hg_60, hf⟩ := oc_e hf
          refine mV_ri (wd := wC ad cI cJ cZ) (σ := σ) (As := [.int v1]) (rest := []) ⟨hx, hb, hml, hown, hts⟩ hK hP hD hS (c_X5_sizeOf l D ad cI cJ cZ σ v1 hg_60) (cwV 1 hts gX7_op_X5_sizeOf rfl rfl rfl hd_X5_sizeOf ⟨Nat.le_trans (Nat.le_of_ble_eq_true rfl) hR.1, Nat.le_trans (Nat.le_of_ble_eq_true rfl) hR.2⟩) rfl (wC_4 _ _ _ _ _) rfl hl.1 rfl (Nat.le_of_ble_eq_true rfl) dX7_op_60 (fun H locs hP hS => ?_)
          refine lv_bipush (v := 24) hx hb dX7_op_63 (by decide) ?_
          refine lv_icmp_ge (tgt := 81) hx hb dX7_op_65 (by decide) (fun c_65 => ?_) (fun c_65 => ?_)
          · rw [if_pos c_65] at hf
            exact w_X7_op_81 hm hR hK hD σ hf _ _ _ hP hS (lv_sub hl [] rfl)
          · rw [if_neg c_65] at hf
            refine lv_aload_n hx hb dX7_op_68 rfl (lv_at hl 0 rfl) ?_
            refine va_get (D := D) (ci := 6) (v := .ref (ad 4)) (C := RX7) (T := TX7) (N := 6) hx hb hts in_X7_op_X7 hown hK hP 0 (wC_0 _ _ _ _ _) rfl 3 (by decide) (hts (.fieldLink RX7 37 "CallGraphs" "ops" "LCallGraphs$Ops;") (List.mem_of_getElem? (i := 2) rfl)) (fun _ h9 => h9) (fC_0_3 _ _) dX7_op_69 ?_
            obtain ⟨r_72, hg_72, hf⟩ := oc_e hf
            refine mV_ri (wd := wC ad cI cJ cZ) (σ := σ) (As := []) (rest := []) ⟨hx, hb, hml, hown, hts⟩ hK hP hD hS (c_X5_size l D ad cI cJ cZ σ hg_72) (cwV 0 hts gX7_op_X5_size rfl rfl rfl hd_X5_size ⟨Nat.le_trans (Nat.le_of_ble_eq_true rfl) hR.1, Nat.le_trans (Nat.le_of_ble_eq_true rfl) hR.2⟩) rfl (wC_4 _ _ _ _ _) rfl hl.1 rfl (Nat.le_of_ble_eq_true rfl) dX7_op_72 (fun H locs hP hS => ?_)
            refine lv_sipush (v := 160) hx hb dX7_op_75 (by decide) ?_
            refine lv_icmp_lt (tgt := 84) hx hb dX7_op_78 (by decide) (fun c_78 => ?_) (fun c_78 => ?_)
            · rw [if_pos c_78] at hf
              refine lv_aload_n hx hb dX7_op_84 rfl (lv_at hl 0 rfl) ?_
              refine va_get (D := D) (ci := 6) (v := .ref (ad 5)) (C := RX7) (T := TX7) (N := 6) hx hb hts in_X7_op_X7 hown hK hP 0 (wC_0 _ _ _ _ _) rfl 4 (by decide) (hts (.fieldLink RX7 46 "CallGraphs" "graph" "LCallGraphs$Graph;") (List.mem_of_getElem? (i := 3) rfl)) (fun _ h9 => h9) (fC_0_4 _ _) dX7_op_85 ?_
              obtain ⟨r_88, hg_88, hf⟩ := oc_e hf
              refine mV_wv (wd := wC ad cI cJ cZ) (σ := σ) (As := []) (rest := []) ⟨hx, hb, hml, hown, hts⟩ hK hP hD hS (c_X3_forget l D ad cI cJ cZ σ hg_88) (cwV 0 hts gX7_op_X3_forget rfl rfl rfl hd_X3_forget ⟨Nat.le_trans (Nat.le_of_ble_eq_true rfl) hR.1, Nat.le_trans (Nat.le_of_ble_eq_true rfl) hR.2⟩) rfl (wC_5 _ _ _ _ _) rfl hl.1 rfl (Nat.le_of_ble_eq_true rfl) dX7_op_88 (fun H locs hP hS => ?_)
              refine lv_aload_n hx hb dX7_op_91 rfl (lv_at hl 0 rfl) ?_
              refine va_get (D := D) (ci := 6) (v := .ref (ad 4)) (C := RX7) (T := TX7) (N := 6) hx hb hts in_X7_op_X7 hown hK hP 0 (wC_0 _ _ _ _ _) rfl 3 (by decide) (hts (.fieldLink RX7 37 "CallGraphs" "ops" "LCallGraphs$Ops;") (List.mem_of_getElem? (i := 2) rfl)) (fun _ h9 => h9) (fC_0_3 _ _) dX7_op_92 ?_
              refine lv_iload_n hx hb dX7_op_95 rfl (lv_at hl 1 rfl) ?_
              refine lv_iload_n hx hb dX7_op_96 rfl (lv_at hl 2 rfl) ?_
              refine lv_iload_n hx hb dX7_op_97 rfl (lv_at hl 3 rfl) ?_
              refine lv_iload_n hx hb dX7_op_98 rfl (lv_at hl 2 rfl) ?_
              refine lv_iconst (v := 4) hx hb dX7_op_99 (by decide) ?_
              refine lv_icmp_ne (tgt := 108) hx hb dX7_op_100 (by decide) (fun c_100 => ?_) (fun c_100 => ?_)
              · rw [if_neg c_100] at hf
                refine lv_iload hx hb dX7_op_108 (lv_at hl 4 rfl) ?_
                exact w_X7_op_110 hm hR hK hD v4 v3 v2 v1 r_88 hf _ _ _ hP hS (lv_sub hl [] rfl)
              · rw [if_pos c_100] at hf
                refine lv_bipush (v := 9) hx hb dX7_op_103 (by decide) ?_
                refine lv_goto (tgt := 110) hx hb dX7_op_105 (by decide) ?_
                exact w_X7_op_110 hm hR hK hD 9 v3 v2 v1 r_88 hf _ _ _ hP hS (lv_sub hl [] rfl)
            · rw [if_neg c_78] at hf
              exact w_X7_op_81 hm hR hK hD σ hf _ _ _ hP hS (lv_sub hl [] rfl)
        · rw [if_pos c_49] at hf
          refine lv_bipush (v := (-103)) hx hb dX7_op_52 (by decide) ?_
          exact rt_i (wd := wC ad cI cJ cZ) hx hb hr hlk (Option.some.inj hf) hP hS dX7_op_54
      · rw [if_pos c_34] at hf
        refine lv_bipush (v := (-102)) hx hb dX7_op_37 (by decide) ?_
        exact rt_i (wd := wC ad cI cJ cZ) hx hb hr hlk (Option.some.inj hf) hP hS dX7_op_39
    · rw [if_pos c_19] at hf
      exact w_X7_op_22 hm hR hK hD σ hf _ _ _ hP hS (lv_sub hl [] rfl)
theorem hd_X7_op : yX7_op.cls = RX7 ∧ yX7_op.cls ≠ "java/lang/invoke/MethodHandle" ∧ yX7_op.cls ≠ "java/lang/invoke/VarHandle" ∧ (parseMethodDescriptor yX7_op.desc).map (fun d => d.parameters.length) = some 4 := by decide +kernel
set_option maxHeartbeats 4000000 in
set_option maxRecDepth 100000 in
theorem c_X7_op (l : Launch) (D : va_G) (ad : Nat → Nat) (cI cJ cZ : ClassId) (σ : SS) (v1 : Int32) (v2 : Int32) (v3 : Int32) (v4 : Int32) {res : Int32 × SS} (hf : p_X7_op_0 v1 v2 v3 v4 σ = some res) : Met l yX7_op wsX7_op ({ frames := 4, cells := 0, slots := 0, locals := 90 } : Room) (PW D (tyw cI cJ cZ) (wC ad cI cJ cZ σ) [.ref (ad 0), .int v1, .int v2, .int v3, .int v4]) (va_Qi (fun (r : Int32) (u : SS) => (r, u) = res) (fun u t => va_P D vwCl (wC ad cI cJ cZ u) t.heap) (aC ad)) 0 0 (aC ad) := by
  refine Met.ofW (cc := cX7_op) (maxL := 5) (ret := (some .int)) (by decide) rfl ?_
  intro p e s m args below meth c s₁ B hml hv
  obtain ⟨rfl, hP, hK, hD0⟩ := hv
  have hD : ∀ σ, va_D (aC ad) (wC ad cI cJ cZ σ) := fun σ => wd_D hD0 (wC_map _ _ _ _ _) (wC_map _ _ _ _ _)
  have hm : mx p s m _ meth c cX7_op 5 (some .int) wsX7_op RX7 := ⟨B.exec, B.bytes, B.returns, hml, findClass_of_methodNamed B.named, atoms_spec (ws := wsX7_op) B.pre, B.notSynchronized⟩
  have hl := lv_entry ([.ref (ad 0), .int v1, .int v2, .int v3, .int v4]) (n := 5) (Nat.le_of_ble_eq_true rfl)
  rw [lg_entry_eq]
  generalize (lg_sl ([.ref (ad 0), .int v1, .int v2, .int v3, .int v4]) ++ List.replicate (5 - (lg_sl ([.ref (ad 0), .int v1, .int v2, .int v3, .int v4])).length) Slot.unset).toArray = ls at hl ⊢
  exact w_X7_op_0 hm ⟨Nat.le_refl _, Nat.le_refl _⟩ hK hD v1 v2 v3 v4 σ hf _ _ _ hP va_S.rf hl
/-! CallGraphs.root(IZ)I -/
theorem in_X7_root_X7 : ∀ w ∈ u_ws RX7 TX7 6, w ∈ wsX7_root := fun w h => List.mem_cons_of_mem _ (List.mem_append_left _ (List.mem_append_left _ (List.mem_append_right _ h)))
def p_X7_root_33 (σ : SS) : Option (Int32 × SS) := some ((-102), σ)
set_option maxHeartbeats 4000000 in
set_option maxRecDepth 100000 in
theorem w_X7_root_33 {p : Program} {l : Launch} {e : Env} {R : Room} {s : State} {m : MethodId} {args : Array Value} {below : List Frame} {meth : Method} {c : Code} {D : va_G} {ad : Nat → Nat} {cI cJ cZ : ClassId} {res : Int32 × SS} (hm : mx p s m args meth c cX7_root 4 (some .int) wsX7_root RX7) (hR : 2 ≤ R.frames ∧ 43 ≤ R.locals) (hK : va_K D vwCl (tyw cI cJ cZ) s) (hD : ∀ σ, va_D (aC ad) (wC ad cI cJ cZ σ)) (σ : SS) (hf : p_X7_root_33 σ = some res) (H : Heap) (locs : List Loc) (ls : Array Slot) (hP : va_P D vwCl (wC ad cI cJ cZ σ) H) (hS : va_S (aC ad) s.heap H locs) (hl : lv_has ls 4 []) : W p l e R s m args below meth c H locs 0 0 (MQ below (va_Qi (fun (r : Int32) (u : SS) => (r, u) = res) (fun u t => va_P D vwCl (wC ad cI cJ cZ u) t.heap) (aC ad)) args s 0 0 (aC ad)) (F0 m 33 ls []) := by
  obtain ⟨hx, hb, hr, hml, hown, hts, hlk⟩ := id hm
  unfold p_X7_root_33 at hf
  refine lv_bipush (v := (-102)) hx hb dX7_root_33 (by decide) ?_
  exact rt_i (wd := wC ad cI cJ cZ) hx hb hr hlk (Option.some.inj hf) hP hS dX7_root_35
def p_X7_root_0 (v1 : Int32) (v2 : Int32) (σ : SS) : Option (Int32 × SS) := oc (p_X4_knows_0 σ v1) (fun r_5 => if r_5 = 0 then some ((-101), σ) else oc (p_X4_sortOf_0 σ v1) (fun r_19 => if r_19 = 1 then p_X7_root_33 σ else if r_19 = 4 then p_X7_root_33 σ else oc (p_X4_isRoot_0 σ v1) (fun r_41 => if r_41 = v2 then some (0, σ) else oc (p_X3_forget_0 σ) (fun r_54 => oc (p_X4_turnRoot_0 v1 r_54) (fun r_62 => some (1, r_62))))))
set_option maxHeartbeats 4000000 in
set_option maxRecDepth 100000 in
theorem w_X7_root_0 {p : Program} {l : Launch} {e : Env} {R : Room} {s : State} {m : MethodId} {args : Array Value} {below : List Frame} {meth : Method} {c : Code} {D : va_G} {ad : Nat → Nat} {cI cJ cZ : ClassId} {res : Int32 × SS} (hm : mx p s m args meth c cX7_root 4 (some .int) wsX7_root RX7) (hR : 2 ≤ R.frames ∧ 43 ≤ R.locals) (hK : va_K D vwCl (tyw cI cJ cZ) s) (hD : ∀ σ, va_D (aC ad) (wC ad cI cJ cZ σ)) (v1 : Int32) (v2 : Int32) (σ : SS) (hf : p_X7_root_0 v1 v2 σ = some res) (H : Heap) (locs : List Loc) (ls : Array Slot) (hP : va_P D vwCl (wC ad cI cJ cZ σ) H) (hS : va_S (aC ad) s.heap H locs) (hl : lv_has ls 4 [(0, .ref (ad 0)), (1, .int v1), (2, .int v2)]) : W p l e R s m args below meth c H locs 0 0 (MQ below (va_Qi (fun (r : Int32) (u : SS) => (r, u) = res) (fun u t => va_P D vwCl (wC ad cI cJ cZ u) t.heap) (aC ad)) args s 0 0 (aC ad)) (F0 m 0 ls []) := by
  obtain ⟨hx, hb, hr, hml, hown, hts, hlk⟩ := id hm
  unfold p_X7_root_0 at hf
  refine lv_aload_n hx hb dX7_root_0 rfl (lv_at hl 0 rfl) ?_
  refine va_get (D := D) (ci := 6) (v := .ref (ad 2)) (C := RX7) (T := TX7) (N := 6) hx hb hts in_X7_root_X7 hown hK hP 0 (wC_0 _ _ _ _ _) rfl 1 (by decide) (hts (.fieldLink RX7 21 "CallGraphs" "members" "LCallGraphs$Members;") (List.mem_of_getElem? (i := 1) rfl)) (fun _ h9 => h9) (fC_0_1 _ _) dX7_root_1 ?_
  refine lv_iload_n hx hb dX7_root_4 rfl (lv_at hl 1 rfl) ?_
  obtain ⟨r_5, hg_5, hf⟩ := oc_e hf
  refine mV_ri (wd := wC ad cI cJ cZ) (σ := σ) (As := [.int v1]) (rest := []) ⟨hx, hb, hml, hown, hts⟩ hK hP hD hS (c_X4_knows l D ad cI cJ cZ σ v1 hg_5) (cwV 1 hts gX7_root_X4_knows rfl rfl rfl hd_X4_knows ⟨Nat.le_trans (Nat.le_of_ble_eq_true rfl) hR.1, Nat.le_trans (Nat.le_of_ble_eq_true rfl) hR.2⟩) rfl (wC_2 _ _ _ _ _) rfl hl.1 rfl (Nat.le_of_ble_eq_true rfl) dX7_root_5 (fun H locs hP hS => ?_)
  refine lv_if_ne (tgt := 14) hx hb dX7_root_8 (by decide) (fun c_8 => ?_) (fun c_8 => ?_)
  · rw [if_neg c_8] at hf
    refine lv_aload_n hx hb dX7_root_14 rfl (lv_at hl 0 rfl) ?_
    refine va_get (D := D) (ci := 6) (v := .ref (ad 2)) (C := RX7) (T := TX7) (N := 6) hx hb hts in_X7_root_X7 hown hK hP 0 (wC_0 _ _ _ _ _) rfl 1 (by decide) (hts (.fieldLink RX7 21 "CallGraphs" "members" "LCallGraphs$Members;") (List.mem_of_getElem? (i := 1) rfl)) (fun _ h9 => h9) (fC_0_1 _ _) dX7_root_15 ?_
    refine lv_iload_n hx hb dX7_root_18 rfl (lv_at hl 1 rfl) ?_
    obtain ⟨r_19, hg_19, hf⟩ := oc_e hf
    refine mV_ri (wd := wC ad cI cJ cZ) (σ := σ) (As := [.int v1]) (rest := []) ⟨hx, hb, hml, hown, hts⟩ hK hP hD hS (c_X4_sortOf l D ad cI cJ cZ σ v1 hg_19) (cwV 1 hts gX7_root_X4_sortOf rfl rfl rfl hd_X4_sortOf ⟨Nat.le_trans (Nat.le_of_ble_eq_true rfl) hR.1, Nat.le_trans (Nat.le_of_ble_eq_true rfl) hR.2⟩) rfl (wC_2 _ _ _ _ _) rfl hl.1 rfl (Nat.le_of_ble_eq_true rfl) dX7_root_19 (fun H locs hP hS => ?_)
    refine lv_istore_n (lv' := [(3, .int r_19), (0, .ref (ad 0)), (1, .int v1), (2, .int v2)]) hx hb dX7_root_22 rfl hl (by decide) rfl (fun ls hl => ?_)
    refine lv_iload_n hx hb dX7_root_23 rfl (lv_at hl 0 rfl) ?_
    refine lv_iconst (v := 1) hx hb dX7_root_24 (by decide) ?_
    refine lv_icmp_eq (tgt := 33) hx hb dX7_root_25 (by decide) (fun c_25 => ?_) (fun c_25 => ?_)
    · rw [if_pos c_25] at hf
      exact w_X7_root_33 hm hR hK hD σ hf _ _ _ hP hS (lv_sub hl [] rfl)
    · rw [if_neg c_25] at hf
      refine lv_iload_n hx hb dX7_root_28 rfl (lv_at hl 0 rfl) ?_
      refine lv_iconst (v := 4) hx hb dX7_root_29 (by decide) ?_
      refine lv_icmp_ne (tgt := 36) hx hb dX7_root_30 (by decide) (fun c_30 => ?_) (fun c_30 => ?_)
      · rw [if_neg c_30] at hf
        refine lv_aload_n hx hb dX7_root_36 rfl (lv_at hl 1 rfl) ?_
        refine va_get (D := D) (ci := 6) (v := .ref (ad 2)) (C := RX7) (T := TX7) (N := 6) hx hb hts in_X7_root_X7 hown hK hP 0 (wC_0 _ _ _ _ _) rfl 1 (by decide) (hts (.fieldLink RX7 21 "CallGraphs" "members" "LCallGraphs$Members;") (List.mem_of_getElem? (i := 1) rfl)) (fun _ h9 => h9) (fC_0_1 _ _) dX7_root_37 ?_
        refine lv_iload_n hx hb dX7_root_40 rfl (lv_at hl 2 rfl) ?_
        obtain ⟨r_41, hg_41, hf⟩ := oc_e hf
        refine mV_ri (wd := wC ad cI cJ cZ) (σ := σ) (As := [.int v1]) (rest := []) ⟨hx, hb, hml, hown, hts⟩ hK hP hD hS (c_X4_isRoot l D ad cI cJ cZ σ v1 hg_41) (cwV 1 hts gX7_root_X4_isRoot rfl rfl rfl hd_X4_isRoot ⟨Nat.le_trans (Nat.le_of_ble_eq_true rfl) hR.1, Nat.le_trans (Nat.le_of_ble_eq_true rfl) hR.2⟩) rfl (wC_2 _ _ _ _ _) rfl hl.1 rfl (Nat.le_of_ble_eq_true rfl) dX7_root_41 (fun H locs hP hS => ?_)
        refine lv_iload_n hx hb dX7_root_44 rfl (lv_at hl 3 rfl) ?_
        refine lv_icmp_ne (tgt := 50) hx hb dX7_root_45 (by decide) (fun c_45 => ?_) (fun c_45 => ?_)
        · rw [if_neg c_45] at hf
          refine lv_aload_n hx hb dX7_root_50 rfl (lv_at hl 1 rfl) ?_
          refine va_get (D := D) (ci := 6) (v := .ref (ad 5)) (C := RX7) (T := TX7) (N := 6) hx hb hts in_X7_root_X7 hown hK hP 0 (wC_0 _ _ _ _ _) rfl 4 (by decide) (hts (.fieldLink RX7 46 "CallGraphs" "graph" "LCallGraphs$Graph;") (List.mem_of_getElem? (i := 2) rfl)) (fun _ h9 => h9) (fC_0_4 _ _) dX7_root_51 ?_
          obtain ⟨r_54, hg_54, hf⟩ := oc_e hf
          refine mV_wv (wd := wC ad cI cJ cZ) (σ := σ) (As := []) (rest := []) ⟨hx, hb, hml, hown, hts⟩ hK hP hD hS (c_X3_forget l D ad cI cJ cZ σ hg_54) (cwV 0 hts gX7_root_X3_forget rfl rfl rfl hd_X3_forget ⟨Nat.le_trans (Nat.le_of_ble_eq_true rfl) hR.1, Nat.le_trans (Nat.le_of_ble_eq_true rfl) hR.2⟩) rfl (wC_5 _ _ _ _ _) rfl hl.1 rfl (Nat.le_of_ble_eq_true rfl) dX7_root_54 (fun H locs hP hS => ?_)
          refine lv_aload_n hx hb dX7_root_57 rfl (lv_at hl 1 rfl) ?_
          refine va_get (D := D) (ci := 6) (v := .ref (ad 2)) (C := RX7) (T := TX7) (N := 6) hx hb hts in_X7_root_X7 hown hK hP 0 (wC_0 _ _ _ _ _) rfl 1 (by decide) (hts (.fieldLink RX7 21 "CallGraphs" "members" "LCallGraphs$Members;") (List.mem_of_getElem? (i := 1) rfl)) (fun _ h9 => h9) (fC_0_1 _ _) dX7_root_58 ?_
          refine lv_iload_n hx hb dX7_root_61 rfl (lv_at hl 2 rfl) ?_
          obtain ⟨r_62, hg_62, hf⟩ := oc_e hf
          refine mV_wv (wd := wC ad cI cJ cZ) (σ := r_54) (As := [.int v1]) (rest := []) ⟨hx, hb, hml, hown, hts⟩ hK hP hD hS (c_X4_turnRoot l D ad cI cJ cZ r_54 v1 hg_62) (cwV 1 hts gX7_root_X4_turnRoot rfl rfl rfl hd_X4_turnRoot ⟨Nat.le_trans (Nat.le_of_ble_eq_true rfl) hR.1, Nat.le_trans (Nat.le_of_ble_eq_true rfl) hR.2⟩) rfl (wC_2 _ _ _ _ _) rfl hl.1 rfl (Nat.le_of_ble_eq_true rfl) dX7_root_62 (fun H locs hP hS => ?_)
          refine lv_iconst (v := 1) hx hb dX7_root_65 (by decide) ?_
          exact rt_i (wd := wC ad cI cJ cZ) hx hb hr hlk (Option.some.inj hf) hP hS dX7_root_66
        · rw [if_pos c_45] at hf
          refine lv_iconst (v := 0) hx hb dX7_root_48 (by decide) ?_
          exact rt_i (wd := wC ad cI cJ cZ) hx hb hr hlk (Option.some.inj hf) hP hS dX7_root_49
      · rw [if_pos c_30] at hf
        exact w_X7_root_33 hm hR hK hD σ hf _ _ _ hP hS (lv_sub hl [] rfl)
  · rw [if_pos c_8] at hf
    refine lv_bipush (v := (-101)) hx hb dX7_root_11 (by decide) ?_
    exact rt_i (wd := wC ad cI cJ cZ) hx hb hr hlk (Option.some.inj hf) hP hS dX7_root_13
theorem hd_X7_root : yX7_root.cls = RX7 ∧ yX7_root.cls ≠ "java/lang/invoke/MethodHandle" ∧ yX7_root.cls ≠ "java/lang/invoke/VarHandle" ∧ (parseMethodDescriptor yX7_root.desc).map (fun d => d.parameters.length) = some 2 := by decide +kernel
set_option maxHeartbeats 4000000 in
set_option maxRecDepth 100000 in
theorem c_X7_root (l : Launch) (D : va_G) (ad : Nat → Nat) (cI cJ cZ : ClassId) (σ : SS) (v1 : Int32) (v2 : Int32) {res : Int32 × SS} (hf : p_X7_root_0 v1 v2 σ = some res) : Met l yX7_root wsX7_root ({ frames := 2, cells := 0, slots := 0, locals := 43 } : Room) (PW D (tyw cI cJ cZ) (wC ad cI cJ cZ σ) [.ref (ad 0), .int v1, .int v2]) (va_Qi (fun (r : Int32) (u : SS) => (r, u) = res) (fun u t => va_P D vwCl (wC ad cI cJ cZ u) t.heap) (aC ad)) 0 0 (aC ad) := by
  refine Met.ofW (cc := cX7_root) (maxL := 4) (ret := (some .int)) (by decide) rfl ?_
  intro p e s m args below meth c s₁ B hml hv
  obtain ⟨rfl, hP, hK, hD0⟩ := hv
  have hD : ∀ σ, va_D (aC ad) (wC ad cI cJ cZ σ) := fun σ => wd_D hD0 (wC_map _ _ _ _ _) (wC_map _ _ _ _ _)
  have hm : mx p s m _ meth c cX7_root 4 (some .int) wsX7_root RX7 := ⟨B.exec, B.bytes, B.returns, hml, findClass_of_methodNamed B.named, atoms_spec (ws := wsX7_root) B.pre, B.notSynchronized⟩
  have hl := lv_entry ([.ref (ad 0), .int v1, .int v2]) (n := 4) (Nat.le_of_ble_eq_true rfl)
  rw [lg_entry_eq]
  generalize (lg_sl ([.ref (ad 0), .int v1, .int v2]) ++ List.replicate (4 - (lg_sl ([.ref (ad 0), .int v1, .int v2])).length) Slot.unset).toArray = ls at hl ⊢
  exact w_X7_root_0 hm ⟨Nat.le_refl _, Nat.le_refl _⟩ hK hD v1 v2 σ hf _ _ _ hP va_S.rf hl
/-! CallGraphs.count(I)I -/
theorem in_X7_count_X7 : ∀ w ∈ u_ws RX7 TX7 6, w ∈ wsX7_count := fun w h => List.mem_cons_of_mem _ (List.mem_append_left _ (List.mem_append_left _ (List.mem_append_left _ (List.mem_append_left _ (List.mem_append_left _ (List.mem_append_right _ h))))))
def p_X7_count_10 (σ : SS) : Option (Int32 × SS) := some ((-102), σ)
set_option maxHeartbeats 4000000 in
set_option maxRecDepth 100000 in
theorem w_X7_count_10 {p : Program} {l : Launch} {e : Env} {R : Room} {s : State} {m : MethodId} {args : Array Value} {below : List Frame} {meth : Method} {c : Code} {D : va_G} {ad : Nat → Nat} {cI cJ cZ : ClassId} {res : Int32 × SS} (hm : mx p s m args meth c cX7_count 2 (some .int) wsX7_count RX7) (hR : 7 ≤ R.frames ∧ 158 ≤ R.locals) (hK : va_K D vwCl (tyw cI cJ cZ) s) (hD : ∀ σ, va_D (aC ad) (wC ad cI cJ cZ σ)) (σ : SS) (hf : p_X7_count_10 σ = some res) (H : Heap) (locs : List Loc) (ls : Array Slot) (hP : va_P D vwCl (wC ad cI cJ cZ σ) H) (hS : va_S (aC ad) s.heap H locs) (hl : lv_has ls 2 []) : W p l e R s m args below meth c H locs 0 0 (MQ below (va_Qi (fun (r : Int32) (u : SS) => (r, u) = res) (fun u t => va_P D vwCl (wC ad cI cJ cZ u) t.heap) (aC ad)) args s 0 0 (aC ad)) (F0 m 10 ls []) := by
  obtain ⟨hx, hb, hr, hml, hown, hts, hlk⟩ := id hm
  unfold p_X7_count_10 at hf
  refine lv_bipush (v := (-102)) hx hb dX7_count_10 (by decide) ?_
  exact rt_i (wd := wC ad cI cJ cZ) hx hb hr hlk (Option.some.inj hf) hP hS dX7_count_12
def p_X7_count_25 (v1 : Int32) (σ : SS) : Option (Int32 × SS) := (if v1 = 0 then oc (p_X6_size_0 σ) (fun r_80 => some (r_80, σ)) else if v1 = 1 then oc (p_X4_size_0 σ) (fun r_88 => some (r_88, σ)) else if v1 = 2 then oc (p_X5_size_0 σ) (fun r_96 => some (r_96, σ)) else if v1 = 3 then oc (p_X4_roots_0 σ) (fun r_104 => oc (p_J13_bitCount_95d88_0 r_104) (fun r_107 => some (r_107, σ))) else if v1 = 4 then oc (p_X3_reached_0 σ) (fun r_115 => oc (p_J13_bitCount_95d88_0 r_115) (fun r_118 => some (r_118, σ))) else if v1 = 5 then oc (p_X3_madeClasses_0 σ) (fun r_126 => oc (p_J13_bitCount_95d88_0 r_126) (fun r_129 => some (r_129, σ))) else if v1 = 6 then oc (p_X3_begunTypes_0 σ) (fun r_137 => oc (p_J13_bitCount_95d88_0 r_137) (fun r_140 => some (r_140, σ))) else if v1 = 7 then oc (p_X3_countPairs_0 σ) (fun r_148 => some (r_148, σ)) else if v1 = 8 then oc (p_X3_countFaults_0 σ) (fun r_156 => some (r_156, σ)) else oc (p_X3_countRecursive_0 σ) (fun r_164 => some (r_164, σ)))
set_option maxHeartbeats 4000000 in
set_option maxRecDepth 100000 in
theorem w_X7_count_25 {p : Program} {l : Launch} {e : Env} {R : Room} {s : State} {m : MethodId} {args : Array Value} {below : List Frame} {meth : Method} {c : Code} {D : va_G} {ad : Nat → Nat} {cI cJ cZ : ClassId} {res : Int32 × SS} (hm : mx p s m args meth c cX7_count 2 (some .int) wsX7_count RX7) (hR : 7 ≤ R.frames ∧ 158 ≤ R.locals) (hK : va_K D vwCl (tyw cI cJ cZ) s) (hD : ∀ σ, va_D (aC ad) (wC ad cI cJ cZ σ)) (v1 : Int32) (σ : SS) (hf : p_X7_count_25 v1 σ = some res) (H : Heap) (locs : List Loc) (ls : Array Slot) (hP : va_P D vwCl (wC ad cI cJ cZ σ) H) (hS : va_S (aC ad) s.heap H locs) (hl : lv_has ls 2 [(0, .ref (ad 0)), (1, .int v1)]) : W p l e R s m args below meth c H locs 0 0 (MQ below (va_Qi (fun (r : Int32) (u : SS) => (r, u) = res) (fun u t => va_P D vwCl (wC ad cI cJ cZ u) t.heap) (aC ad)) args s 0 0 (aC ad)) (F0 m 25 ls []) := by
  obtain ⟨hx, hb, hr, hml, hown, hts, hlk⟩ := id hm
  unfold p_X7_count_25 at hf
  refine lv_iload_n hx hb dX7_count_25 rfl (lv_at hl 1 rfl) ?_
  by_cases c_26_0 : v1 = 0
  · rw [if_pos c_26_0] at hf
    refine lv_tableIn (off := 50) (tgt := 76) hx hb dX7_count_26 (by rw [c_26_0]; decide) (by rw [c_26_0]; decide) (by rw [c_26_0]; rfl) (by decide) ?_
    refine lv_aload_n hx hb dX7_count_76 rfl (lv_at hl 0 rfl) ?_
    refine va_get (D := D) (ci := 6) (v := .ref (ad 1)) (C := RX7) (T := TX7) (N := 6) hx hb hts in_X7_count_X7 hown hK hP 0 (wC_0 _ _ _ _ _) rfl 0 (by decide) (hts (.fieldLink RX7 10 "CallGraphs" "types" "LCallGraphs$Types;") (List.mem_of_getElem? (i := 2) rfl)) (fun _ h9 => h9) (fC_0_0 _ _) dX7_count_77 ?_
    obtain ⟨r_80, hg_80, hf⟩ := oc_e hf
    refine mV_ri (wd := wC ad cI cJ cZ) (σ := σ) (As := []) (rest := []) ⟨hx, hb, hml, hown, hts⟩ hK hP hD hS (c_X6_size l D ad cI cJ cZ σ hg_80) (cwV 0 hts gX7_count_X6_size rfl rfl rfl hd_X6_size ⟨Nat.le_trans (Nat.le_of_ble_eq_true rfl) hR.1, Nat.le_trans (Nat.le_of_ble_eq_true rfl) hR.2⟩) rfl (wC_1 _ _ _ _ _) rfl hl.1 rfl (Nat.le_of_ble_eq_true rfl) dX7_count_80 (fun H locs hP hS => ?_)
    exact rt_i (wd := wC ad cI cJ cZ) hx hb hr hlk (Option.some.inj hf) hP hS dX7_count_83
  rw [if_neg c_26_0] at hf
  by_cases c_26_1 : v1 = 1
  · rw [if_pos c_26_1] at hf
    refine lv_tableIn (off := 58) (tgt := 84) hx hb dX7_count_26 (by rw [c_26_1]; decide) (by rw [c_26_1]; decide) (by rw [c_26_1]; rfl) (by decide) ?_
    refine lv_aload_n hx hb dX7_count_84 rfl (lv_at hl 0 rfl) ?_
    refine va_get (D := D) (ci := 6) (v := .ref (ad 2)) (C := RX7) (T := TX7) (N := 6) hx hb hts in_X7_count_X7 hown hK hP 0 (wC_0 _ _ _ _ _) rfl 1 (by decide) (hts (.fieldLink RX7 21 "CallGraphs" "members" "LCallGraphs$Members;") (List.mem_of_getElem? (i := 3) rfl)) (fun _ h9 => h9) (fC_0_1 _ _) dX7_count_85 ?_
    obtain ⟨r_88, hg_88, hf⟩ := oc_e hf
    refine mV_ri (wd := wC ad cI cJ cZ) (σ := σ) (As := []) (rest := []) ⟨hx, hb, hml, hown, hts⟩ hK hP hD hS (c_X4_size l D ad cI cJ cZ σ hg_88) (cwV 0 hts gX7_count_X4_size rfl rfl rfl hd_X4_size ⟨Nat.le_trans (Nat.le_of_ble_eq_true rfl) hR.1, Nat.le_trans (Nat.le_of_ble_eq_true rfl) hR.2⟩) rfl (wC_2 _ _ _ _ _) rfl hl.1 rfl (Nat.le_of_ble_eq_true rfl) dX7_count_88 (fun H locs hP hS => ?_)
    exact rt_i (wd := wC ad cI cJ cZ) hx hb hr hlk (Option.some.inj hf) hP hS dX7_count_91
  rw [if_neg c_26_1] at hf
  by_cases c_26_2 : v1 = 2
  · rw [if_pos c_26_2] at hf
    refine lv_tableIn (off := 66) (tgt := 92) hx hb dX7_count_26 (by rw [c_26_2]; decide) (by rw [c_26_2]; decide) (by rw [c_26_2]; rfl) (by decide) ?_
    refine lv_aload_n hx hb dX7_count_92 rfl (lv_at hl 0 rfl) ?_
    refine va_get (D := D) (ci := 6) (v := .ref (ad 4)) (C := RX7) (T := TX7) (N := 6) hx hb hts in_X7_count_X7 hown hK hP 0 (wC_0 _ _ _ _ _) rfl 3 (by decide) (hts (.fieldLink RX7 37 "CallGraphs" "ops" "LCallGraphs$Ops;") (List.mem_of_getElem? (i := 4) rfl)) (fun _ h9 => h9) (fC_0_3 _ _) dX7_count_93 ?_
    obtain ⟨r_96, hg_96, hf⟩ := oc_e hf
    refine mV_ri (wd := wC ad cI cJ cZ) (σ := σ) (As := []) (rest := []) ⟨hx, hb, hml, hown, hts⟩ hK hP hD hS (c_X5_size l D ad cI cJ cZ σ hg_96) (cwV 0 hts gX7_count_X5_size rfl rfl rfl hd_X5_size ⟨Nat.le_trans (Nat.le_of_ble_eq_true rfl) hR.1, Nat.le_trans (Nat.le_of_ble_eq_true rfl) hR.2⟩) rfl (wC_4 _ _ _ _ _) rfl hl.1 rfl (Nat.le_of_ble_eq_true rfl) dX7_count_96 (fun H locs hP hS => ?_)
    exact rt_i (wd := wC ad cI cJ cZ) hx hb hr hlk (Option.some.inj hf) hP hS dX7_count_99
  rw [if_neg c_26_2] at hf
  by_cases c_26_3 : v1 = 3
  · rw [if_pos c_26_3] at hf
    refine lv_tableIn (off := 74) (tgt := 100) hx hb dX7_count_26 (by rw [c_26_3]; decide) (by rw [c_26_3]; decide) (by rw [c_26_3]; rfl) (by decide) ?_
    refine lv_aload_n hx hb dX7_count_100 rfl (lv_at hl 0 rfl) ?_
    refine va_get (D := D) (ci := 6) (v := .ref (ad 2)) (C := RX7) (T := TX7) (N := 6) hx hb hts in_X7_count_X7 hown hK hP 0 (wC_0 _ _ _ _ _) rfl 1 (by decide) (hts (.fieldLink RX7 21 "CallGraphs" "members" "LCallGraphs$Members;") (List.mem_of_getElem? (i := 3) rfl)) (fun _ h9 => h9) (fC_0_1 _ _) dX7_count_101 ?_
    obtain ⟨r_104, hg_104, hf⟩ := oc_e hf
    refine mV_rl (wd := wC ad cI cJ cZ) (σ := σ) (As := []) (rest := []) ⟨hx, hb, hml, hown, hts⟩ hK hP hD hS (c_X4_roots l D ad cI cJ cZ σ hg_104) (cwV 0 hts gX7_count_X4_roots rfl rfl rfl hd_X4_roots ⟨Nat.le_trans (Nat.le_of_ble_eq_true rfl) hR.1, Nat.le_trans (Nat.le_of_ble_eq_true rfl) hR.2⟩) rfl (wC_2 _ _ _ _ _) rfl hl.1 rfl (Nat.le_of_ble_eq_true rfl) dX7_count_104 (fun H locs hP hS => ?_)
    obtain ⟨r_107, hg_107, hf⟩ := oc_e hf
    refine mS_i (D := D) (As := [.long r_104]) (rest := []) ⟨hx, hb, hml, hown, hts⟩ hP hS (c_J13_bitCount_95d88 l r_104 hg_107) (va_cwS 1 hts gX7_count_J13_bitCount_95d88 rfl rfl rfl hd_J13_bitCount_95d88 ⟨Nat.le_trans (Nat.le_of_ble_eq_true rfl) hR.1, Nat.le_trans (Nat.le_of_ble_eq_true rfl) hR.2⟩) rfl hl.1 rfl (Nat.le_of_ble_eq_true rfl) dX7_count_107 (fun H locs hP hS => ?_)
    exact rt_i (wd := wC ad cI cJ cZ) hx hb hr hlk (Option.some.inj hf) hP hS dX7_count_110
  rw [if_neg c_26_3] at hf
  by_cases c_26_4 : v1 = 4
  · rw [if_pos c_26_4] at hf
    refine lv_tableIn (off := 85) (tgt := 111) hx hb dX7_count_26 (by rw [c_26_4]; decide) (by rw [c_26_4]; decide) (by rw [c_26_4]; rfl) (by decide) ?_
    refine lv_aload_n hx hb dX7_count_111 rfl (lv_at hl 0 rfl) ?_
    refine va_get (D := D) (ci := 6) (v := .ref (ad 5)) (C := RX7) (T := TX7) (N := 6) hx hb hts in_X7_count_X7 hown hK hP 0 (wC_0 _ _ _ _ _) rfl 4 (by decide) (hts (.fieldLink RX7 46 "CallGraphs" "graph" "LCallGraphs$Graph;") (List.mem_of_getElem? (i := 1) rfl)) (fun _ h9 => h9) (fC_0_4 _ _) dX7_count_112 ?_
    obtain ⟨r_115, hg_115, hf⟩ := oc_e hf
    refine mV_rl (wd := wC ad cI cJ cZ) (σ := σ) (As := []) (rest := []) ⟨hx, hb, hml, hown, hts⟩ hK hP hD hS (c_X3_reached l D ad cI cJ cZ σ hg_115) (cwV 0 hts gX7_count_X3_reached rfl rfl rfl hd_X3_reached ⟨Nat.le_trans (Nat.le_of_ble_eq_true rfl) hR.1, Nat.le_trans (Nat.le_of_ble_eq_true rfl) hR.2⟩) rfl (wC_5 _ _ _ _ _) rfl hl.1 rfl (Nat.le_of_ble_eq_true rfl) dX7_count_115 (fun H locs hP hS => ?_)
    obtain ⟨r_118, hg_118, hf⟩ := oc_e hf
    refine mS_i (D := D) (As := [.long r_115]) (rest := []) ⟨hx, hb, hml, hown, hts⟩ hP hS (c_J13_bitCount_95d88 l r_115 hg_118) (va_cwS 1 hts gX7_count_J13_bitCount_95d88 rfl rfl rfl hd_J13_bitCount_95d88 ⟨Nat.le_trans (Nat.le_of_ble_eq_true rfl) hR.1, Nat.le_trans (Nat.le_of_ble_eq_true rfl) hR.2⟩) rfl hl.1 rfl (Nat.le_of_ble_eq_true rfl) dX7_count_118 (fun H locs hP hS => ?_)
    exact rt_i (wd := wC ad cI cJ cZ) hx hb hr hlk (Option.some.inj hf) hP hS dX7_count_121
  rw [if_neg c_26_4] at hf
  by_cases c_26_5 : v1 = 5
  · rw [if_pos c_26_5] at hf
    refine lv_tableIn (off := 96) (tgt := 122) hx hb dX7_count_26 (by rw [c_26_5]; decide) (by rw [c_26_5]; decide) (by rw [c_26_5]; rfl) (by decide) ?_
    refine lv_aload_n hx hb dX7_count_122 rfl (lv_at hl 0 rfl) ?_
    refine va_get (D := D) (ci := 6) (v := .ref (ad 5)) (C := RX7) (T := TX7) (N := 6) hx hb hts in_X7_count_X7 hown hK hP 0 (wC_0 _ _ _ _ _) rfl 4 (by decide) (hts (.fieldLink RX7 46 "CallGraphs" "graph" "LCallGraphs$Graph;") (List.mem_of_getElem? (i := 1) rfl)) (fun _ h9 => h9) (fC_0_4 _ _) dX7_count_123 ?_
    obtain ⟨r_126, hg_126, hf⟩ := oc_e hf
    refine mV_rl (wd := wC ad cI cJ cZ) (σ := σ) (As := []) (rest := []) ⟨hx, hb, hml, hown, hts⟩ hK hP hD hS (c_X3_madeClasses l D ad cI cJ cZ σ hg_126) (cwV 0 hts gX7_count_X3_madeClasses rfl rfl rfl hd_X3_madeClasses ⟨Nat.le_trans (Nat.le_of_ble_eq_true rfl) hR.1, Nat.le_trans (Nat.le_of_ble_eq_true rfl) hR.2⟩) rfl (wC_5 _ _ _ _ _) rfl hl.1 rfl (Nat.le_of_ble_eq_true rfl) dX7_count_126 (fun H locs hP hS => ?_)
    obtain ⟨r_129, hg_129, hf⟩ := oc_e hf
    refine mS_i (D := D) (As := [.long r_126]) (rest := []) ⟨hx, hb, hml, hown, hts⟩ hP hS (c_J13_bitCount_95d88 l r_126 hg_129) (va_cwS 1 hts gX7_count_J13_bitCount_95d88 rfl rfl rfl hd_J13_bitCount_95d88 ⟨Nat.le_trans (Nat.le_of_ble_eq_true rfl) hR.1, Nat.le_trans (Nat.le_of_ble_eq_true rfl) hR.2⟩) rfl hl.1 rfl (Nat.le_of_ble_eq_true rfl) dX7_count_129 (fun H locs hP hS => ?_)
    exact rt_i (wd := wC ad cI cJ cZ) hx hb hr hlk (Option.some.inj hf) hP hS dX7_count_132
  rw [if_neg c_26_5] at hf
  by_cases c_26_6 : v1 = 6
  · rw [if_pos c_26_6] at hf
    refine lv_tableIn (off := 107) (tgt := 133) hx hb dX7_count_26 (by rw [c_26_6]; decide) (by rw [c_26_6]; decide) (by rw [c_26_6]; rfl) (by decide) ?_
    refine lv_aload_n hx hb dX7_count_133 rfl (lv_at hl 0 rfl) ?_
    refine va_get (D := D) (ci := 6) (v := .ref (ad 5)) (C := RX7) (T := TX7) (N := 6) hx hb hts in_X7_count_X7 hown hK hP 0 (wC_0 _ _ _ _ _) rfl 4 (by decide) (hts (.fieldLink RX7 46 "CallGraphs" "graph" "LCallGraphs$Graph;") (List.mem_of_getElem? (i := 1) rfl)) (fun _ h9 => h9) (fC_0_4 _ _) dX7_count_134 ?_
    obtain ⟨r_137, hg_137, hf⟩ := oc_e hf
    refine mV_rl (wd := wC ad cI cJ cZ) (σ := σ) (As := []) (rest := []) ⟨hx, hb, hml, hown, hts⟩ hK hP hD hS (c_X3_begunTypes l D ad cI cJ cZ σ hg_137) (cwV 0 hts gX7_count_X3_begunTypes rfl rfl rfl hd_X3_begunTypes ⟨Nat.le_trans (Nat.le_of_ble_eq_true rfl) hR.1, Nat.le_trans (Nat.le_of_ble_eq_true rfl) hR.2⟩) rfl (wC_5 _ _ _ _ _) rfl hl.1 rfl (Nat.le_of_ble_eq_true rfl) dX7_count_137 (fun H locs hP hS => ?_)
    obtain ⟨r_140, hg_140, hf⟩ := oc_e hf
    refine mS_i (D := D) (As := [.long r_137]) (rest := []) ⟨hx, hb, hml, hown, hts⟩ hP hS (c_J13_bitCount_95d88 l r_137 hg_140) (va_cwS 1 hts gX7_count_J13_bitCount_95d88 rfl rfl rfl hd_J13_bitCount_95d88 ⟨Nat.le_trans (Nat.le_of_ble_eq_true rfl) hR.1, Nat.le_trans (Nat.le_of_ble_eq_true rfl) hR.2⟩) rfl hl.1 rfl (Nat.le_of_ble_eq_true rfl) dX7_count_140 (fun H locs hP hS => ?_)
    exact rt_i (wd := wC ad cI cJ cZ) hx hb hr hlk (Option.some.inj hf) hP hS dX7_count_143
  rw [if_neg c_26_6] at hf
  by_cases c_26_7 : v1 = 7
  · rw [if_pos c_26_7] at hf
    refine lv_tableIn (off := 118) (tgt := 144) hx hb dX7_count_26 (by rw [c_26_7]; decide) (by rw [c_26_7]; decide) (by rw [c_26_7]; rfl) (by decide) ?_
    refine lv_aload_n hx hb dX7_count_144 rfl (lv_at hl 0 rfl) ?_
    refine va_get (D := D) (ci := 6) (v := .ref (ad 5)) (C := RX7) (T := TX7) (N := 6) hx hb hts in_X7_count_X7 hown hK hP 0 (wC_0 _ _ _ _ _) rfl 4 (by decide) (hts (.fieldLink RX7 46 "CallGraphs" "graph" "LCallGraphs$Graph;") (List.mem_of_getElem? (i := 1) rfl)) (fun _ h9 => h9) (fC_0_4 _ _) dX7_count_145 ?_
    obtain ⟨r_148, hg_148, hf⟩ := oc_e hf
    refine mV_ri (wd := wC ad cI cJ cZ) (σ := σ) (As := []) (rest := []) ⟨hx, hb, hml, hown, hts⟩ hK hP hD hS (c_X3_countPairs l D ad cI cJ cZ σ hg_148) (cwV 0 hts gX7_count_X3_countPairs rfl rfl rfl hd_X3_countPairs ⟨Nat.le_trans (Nat.le_of_ble_eq_true rfl) hR.1, Nat.le_trans (Nat.le_of_ble_eq_true rfl) hR.2⟩) rfl (wC_5 _ _ _ _ _) rfl hl.1 rfl (Nat.le_of_ble_eq_true rfl) dX7_count_148 (fun H locs hP hS => ?_)
    exact rt_i (wd := wC ad cI cJ cZ) hx hb hr hlk (Option.some.inj hf) hP hS dX7_count_151
  rw [if_neg c_26_7] at hf
  by_cases c_26_8 : v1 = 8
  · rw [if_pos c_26_8] at hf
    refine lv_tableIn (off := 126) (tgt := 152) hx hb dX7_count_26 (by rw [c_26_8]; decide) (by rw [c_26_8]; decide) (by rw [c_26_8]; rfl) (by decide) ?_
    refine lv_aload_n hx hb dX7_count_152 rfl (lv_at hl 0 rfl) ?_
    refine va_get (D := D) (ci := 6) (v := .ref (ad 5)) (C := RX7) (T := TX7) (N := 6) hx hb hts in_X7_count_X7 hown hK hP 0 (wC_0 _ _ _ _ _) rfl 4 (by decide) (hts (.fieldLink RX7 46 "CallGraphs" "graph" "LCallGraphs$Graph;") (List.mem_of_getElem? (i := 1) rfl)) (fun _ h9 => h9) (fC_0_4 _ _) dX7_count_153 ?_
    obtain ⟨r_156, hg_156, hf⟩ := oc_e hf
    refine mV_ri (wd := wC ad cI cJ cZ) (σ := σ) (As := []) (rest := []) ⟨hx, hb, hml, hown, hts⟩ hK hP hD hS (c_X3_countFaults l D ad cI cJ cZ σ hg_156) (cwV 0 hts gX7_count_X3_countFaults rfl rfl rfl hd_X3_countFaults ⟨Nat.le_trans (Nat.le_of_ble_eq_true rfl) hR.1, Nat.le_trans (Nat.le_of_ble_eq_true rfl) hR.2⟩) rfl (wC_5 _ _ _ _ _) rfl hl.1 rfl (Nat.le_of_ble_eq_true rfl) dX7_count_156 (fun H locs hP hS => ?_)
    exact rt_i (wd := wC ad cI cJ cZ) hx hb hr hlk (Option.some.inj hf) hP hS dX7_count_159
  rw [if_neg c_26_8] at hf
  refine lv_tableOut (tgt := 160) hx hb dX7_count_26 (by have g0 := lv_neT c_26_0 (a := 0) (by decide); have g1 := lv_neT c_26_1 (a := 1) (by decide); have g2 := lv_neT c_26_2 (a := 2) (by decide); have g3 := lv_neT c_26_3 (a := 3) (by decide); have g4 := lv_neT c_26_4 (a := 4) (by decide); have g5 := lv_neT c_26_5 (a := 5) (by decide); have g6 := lv_neT c_26_6 (a := 6) (by decide); have g7 := lv_neT c_26_7 (a := 7) (by decide); have g8 := lv_neT c_26_8 (a := 8) (by decide); omega) (by decide) ?_
  refine lv_aload_n hx hb dX7_count_160 rfl (lv_at hl 0 rfl) ?_
  refine va_get (D := D) (ci := 6) (v := .ref (ad 5)) (C := RX7) (T := TX7) (N := 6) hx hb hts in_X7_count_X7 hown hK hP 0 (wC_0 _ _ _ _ _) rfl 4 (by decide) (hts (.fieldLink RX7 46 "CallGraphs" "graph" "LCallGraphs$Graph;") (List.mem_of_getElem? (i := 1) rfl)) (fun _ h9 => h9) (fC_0_4 _ _) dX7_count_161 ?_
  obtain ⟨r_164, hg_164, hf⟩ := oc_e hf
  refine mV_ri (wd := wC ad cI cJ cZ) (σ := σ) (As := []) (rest := []) ⟨hx, hb, hml, hown, hts⟩ hK hP hD hS (c_X3_countRecursive l D ad cI cJ cZ σ hg_164) (cwV 0 hts gX7_count_X3_countRecursive rfl rfl rfl hd_X3_countRecursive ⟨Nat.le_trans (Nat.le_of_ble_eq_true rfl) hR.1, Nat.le_trans (Nat.le_of_ble_eq_true rfl) hR.2⟩) rfl (wC_5 _ _ _ _ _) rfl hl.1 rfl (Nat.le_of_ble_eq_true rfl) dX7_count_164 (fun H locs hP hS => ?_)
  exact rt_i (wd := wC ad cI cJ cZ) hx hb hr hlk (Option.some.inj hf) hP hS dX7_count_167
def p_X7_count_0 (v1 : Int32) (σ : SS) : Option (Int32 × SS) := if v1 < 0 then p_X7_count_10 σ else if v1 ≤ 9 then if v1 ≤ 3 then p_X7_count_25 v1 σ else oc (p_X3_refresh_0 σ) (fun r_22 => p_X7_count_25 v1 r_22) else p_X7_count_10 σ
set_option maxHeartbeats 4000000 in
set_option maxRecDepth 100000 in
theorem w_X7_count_0 {p : Program} {l : Launch} {e : Env} {R : Room} {s : State} {m : MethodId} {args : Array Value} {below : List Frame} {meth : Method} {c : Code} {D : va_G} {ad : Nat → Nat} {cI cJ cZ : ClassId} {res : Int32 × SS} (hm : mx p s m args meth c cX7_count 2 (some .int) wsX7_count RX7) (hR : 7 ≤ R.frames ∧ 158 ≤ R.locals) (hK : va_K D vwCl (tyw cI cJ cZ) s) (hD : ∀ σ, va_D (aC ad) (wC ad cI cJ cZ σ)) (v1 : Int32) (σ : SS) (hf : p_X7_count_0 v1 σ = some res) (H : Heap) (locs : List Loc) (ls : Array Slot) (hP : va_P D vwCl (wC ad cI cJ cZ σ) H) (hS : va_S (aC ad) s.heap H locs) (hl : lv_has ls 2 [(0, .ref (ad 0)), (1, .int v1)]) : W p l e R s m args below meth c H locs 0 0 (MQ below (va_Qi (fun (r : Int32) (u : SS) => (r, u) = res) (fun u t => va_P D vwCl (wC ad cI cJ cZ u) t.heap) (aC ad)) args s 0 0 (aC ad)) (F0 m 0 ls []) := by
  obtain ⟨hx, hb, hr, hml, hown, hts, hlk⟩ := id hm
  unfold p_X7_count_0 at hf
  refine lv_iload_n hx hb dX7_count_0 rfl (lv_at hl 1 rfl) ?_
  refine lv_if_lt (tgt := 10) hx hb dX7_count_1 (by decide) (fun c_1 => ?_) (fun c_1 => ?_)
  · rw [if_pos c_1] at hf
    exact w_X7_count_10 hm hR hK hD σ hf _ _ _ hP hS (lv_sub hl [] rfl)
  · rw [if_neg c_1] at hf
    refine lv_iload_n hx hb dX7_count_4 rfl (lv_at hl 1 rfl) ?_
    refine lv_bipush (v := 9) hx hb dX7_count_5 (by decide) ?_
    refine lv_icmp_le (tgt := 13) hx hb dX7_count_7 (by decide) (fun c_7 => ?_) (fun c_7 => ?_)
    · rw [if_pos c_7] at hf
      refine lv_iload_n hx hb dX7_count_13 rfl (lv_at hl 1 rfl) ?_
      refine lv_iconst (v := 3) hx hb dX7_count_14 (by decide) ?_
      refine lv_icmp_le (tgt := 25) hx hb dX7_count_15 (by decide) (fun c_15 => ?_) (fun c_15 => ?_)
      · rw [if_pos c_15] at hf
        exact w_X7_count_25 hm hR hK hD v1 σ hf _ _ _ hP hS (lv_sub hl [0, 1] rfl)
      · rw [if_neg c_15] at hf
        refine lv_aload_n hx hb dX7_count_18 rfl (lv_at hl 0 rfl) ?_
        refine va_get (D := D) (ci := 6) (v := .ref (ad 5)) (C := RX7) (T := TX7) (N := 6) hx hb hts in_X7_count_X7 hown hK hP 0 (wC_0 _ _ _ _ _) rfl 4 (by decide) (hts (.fieldLink RX7 46 "CallGraphs" "graph" "LCallGraphs$Graph;") (List.mem_of_getElem? (i := 1) rfl)) (fun _ h9 => h9) (fC_0_4 _ _) dX7_count_19 ?_
        obtain ⟨r_22, hg_22, hf⟩ := oc_e hf
        refine mV_wv (wd := wC ad cI cJ cZ) (σ := σ) (As := []) (rest := []) ⟨hx, hb, hml, hown, hts⟩ hK hP hD hS (c_X3_refresh l D ad cI cJ cZ σ hg_22) (cwV 0 hts gX7_count_X3_refresh rfl rfl rfl hd_X3_refresh ⟨Nat.le_trans (Nat.le_of_ble_eq_true rfl) hR.1, Nat.le_trans (Nat.le_of_ble_eq_true rfl) hR.2⟩) rfl (wC_5 _ _ _ _ _) rfl hl.1 rfl (Nat.le_of_ble_eq_true rfl) dX7_count_22 (fun H locs hP hS => ?_)
        exact w_X7_count_25 hm hR hK hD v1 r_22 hf _ _ _ hP hS (lv_sub hl [0, 1] rfl)
    · rw [if_neg c_7] at hf
      exact w_X7_count_10 hm hR hK hD σ hf _ _ _ hP hS (lv_sub hl [] rfl)
theorem hd_X7_count : yX7_count.cls = RX7 ∧ yX7_count.cls ≠ "java/lang/invoke/MethodHandle" ∧ yX7_count.cls ≠ "java/lang/invoke/VarHandle" ∧ (parseMethodDescriptor yX7_count.desc).map (fun d => d.parameters.length) = some 1 := by decide +kernel
set_option maxHeartbeats 4000000 in
set_option maxRecDepth 100000 in
theorem c_X7_count (l : Launch) (D : va_G) (ad : Nat → Nat) (cI cJ cZ : ClassId) (σ : SS) (v1 : Int32) {res : Int32 × SS} (hf : p_X7_count_0 v1 σ = some res) : Met l yX7_count wsX7_count ({ frames := 7, cells := 0, slots := 0, locals := 158 } : Room) (PW D (tyw cI cJ cZ) (wC ad cI cJ cZ σ) [.ref (ad 0), .int v1]) (va_Qi (fun (r : Int32) (u : SS) => (r, u) = res) (fun u t => va_P D vwCl (wC ad cI cJ cZ u) t.heap) (aC ad)) 0 0 (aC ad) := by
  refine Met.ofW (cc := cX7_count) (maxL := 2) (ret := (some .int)) (by decide) rfl ?_
  intro p e s m args below meth c s₁ B hml hv
  obtain ⟨rfl, hP, hK, hD0⟩ := hv
  have hD : ∀ σ, va_D (aC ad) (wC ad cI cJ cZ σ) := fun σ => wd_D hD0 (wC_map _ _ _ _ _) (wC_map _ _ _ _ _)
  have hm : mx p s m _ meth c cX7_count 2 (some .int) wsX7_count RX7 := ⟨B.exec, B.bytes, B.returns, hml, findClass_of_methodNamed B.named, atoms_spec (ws := wsX7_count) B.pre, B.notSynchronized⟩
  have hl := lv_entry ([.ref (ad 0), .int v1]) (n := 2) (Nat.le_of_ble_eq_true rfl)
  rw [lg_entry_eq]
  generalize (lg_sl ([.ref (ad 0), .int v1]) ++ List.replicate (2 - (lg_sl ([.ref (ad 0), .int v1])).length) Slot.unset).toArray = ls at hl ⊢
  exact w_X7_count_0 hm ⟨Nat.le_refl _, Nat.le_refl _⟩ hK hD v1 σ hf _ _ _ hP va_S.rf hl
/-! CallGraphs.under(II)I -/
theorem in_X7_under_X7 : ∀ w ∈ u_ws RX7 TX7 6, w ∈ wsX7_under := fun w h => List.mem_cons_of_mem _ (List.mem_append_left _ (List.mem_append_right _ h))
def p_X7_under_22 (σ : SS) : Option (Int32) := some (-101)
set_option maxHeartbeats 4000000 in
set_option maxRecDepth 100000 in
theorem w_X7_under_22 {p : Program} {l : Launch} {e : Env} {R : Room} {s : State} {m : MethodId} {args : Array Value} {below : List Frame} {meth : Method} {c : Code} {D : va_G} {ad : Nat → Nat} {cI cJ cZ : ClassId} {res : Int32} (hm : mx p s m args meth c cX7_under 3 (some .int) wsX7_under RX7) (hR : 2 ≤ R.frames ∧ 44 ≤ R.locals) (hK : va_K D vwCl (tyw cI cJ cZ) s) (hD : ∀ σ, va_D (aC ad) (wC ad cI cJ cZ σ)) (σ : SS) (hf : p_X7_under_22 σ = some res) (H : Heap) (locs : List Loc) (ls : Array Slot) (hP : va_P D vwCl (wC ad cI cJ cZ σ) H) (hS : va_S (aC ad) s.heap H locs) (hl : lv_has ls 3 []) : W p l e R s m args below meth c H locs 0 0 (MQ below (va_Qi (fun (r : Int32) (u : SS) => r = res ∧ u = σ) (fun u t => va_P D vwCl (wC ad cI cJ cZ u) t.heap) (aC ad)) args s 0 0 (aC ad)) (F0 m 22 ls []) := by
  obtain ⟨hx, hb, hr, hml, hown, hts, hlk⟩ := id hm
  unfold p_X7_under_22 at hf
  refine lv_bipush (v := (-101)) hx hb dX7_under_22 (by decide) ?_
  exact rt_i (wd := wC ad cI cJ cZ) hx hb hr hlk ⟨Option.some.inj hf, rfl⟩ hP hS dX7_under_24
def p_X7_under_42 (σ : SS) (t0 : Int32) : Option (Int32) := some t0
set_option maxHeartbeats 4000000 in
set_option maxRecDepth 100000 in
theorem w_X7_under_42 {p : Program} {l : Launch} {e : Env} {R : Room} {s : State} {m : MethodId} {args : Array Value} {below : List Frame} {meth : Method} {c : Code} {D : va_G} {ad : Nat → Nat} {cI cJ cZ : ClassId} {res : Int32} (hm : mx p s m args meth c cX7_under 3 (some .int) wsX7_under RX7) (hR : 2 ≤ R.frames ∧ 44 ≤ R.locals) (hK : va_K D vwCl (tyw cI cJ cZ) s) (hD : ∀ σ, va_D (aC ad) (wC ad cI cJ cZ σ)) (σ : SS) (t0 : Int32) (hf : p_X7_under_42 σ t0 = some res) (H : Heap) (locs : List Loc) (ls : Array Slot) (hP : va_P D vwCl (wC ad cI cJ cZ σ) H) (hS : va_S (aC ad) s.heap H locs) (hl : lv_has ls 3 []) : W p l e R s m args below meth c H locs 0 0 (MQ below (va_Qi (fun (r : Int32) (u : SS) => r = res ∧ u = σ) (fun u t => va_P D vwCl (wC ad cI cJ cZ u) t.heap) (aC ad)) args s 0 0 (aC ad)) (F0 m 42 ls [.int t0]) := by
  obtain ⟨hx, hb, hr, hml, hown, hts, hlk⟩ := id hm
  unfold p_X7_under_42 at hf
  exact rt_i (wd := wC ad cI cJ cZ) hx hb hr hlk ⟨Option.some.inj hf, rfl⟩ hP hS dX7_under_42
def p_X7_under_0 (σ : SS) (v1 : Int32) (v2 : Int32) : Option (Int32) := oc (p_X6_knows_0 σ v1) (fun r_5 => if r_5 = 0 then p_X7_under_22 σ else oc (p_X6_knows_0 σ v2) (fun r_16 => if r_16 = 0 then p_X7_under_22 σ else oc (p_X6_isUnder_0 σ v1 v2) (fun r_31 => if r_31 = 0 then p_X7_under_42 σ 0 else p_X7_under_42 σ 1)))
set_option maxHeartbeats 4000000 in
set_option maxRecDepth 100000 in
theorem w_X7_under_0 {p : Program} {l : Launch} {e : Env} {R : Room} {s : State} {m : MethodId} {args : Array Value} {below : List Frame} {meth : Method} {c : Code} {D : va_G} {ad : Nat → Nat} {cI cJ cZ : ClassId} {res : Int32} (hm : mx p s m args meth c cX7_under 3 (some .int) wsX7_under RX7) (hR : 2 ≤ R.frames ∧ 44 ≤ R.locals) (hK : va_K D vwCl (tyw cI cJ cZ) s) (hD : ∀ σ, va_D (aC ad) (wC ad cI cJ cZ σ)) (σ : SS) (v1 : Int32) (v2 : Int32) (hf : p_X7_under_0 σ v1 v2 = some res) (H : Heap) (locs : List Loc) (ls : Array Slot) (hP : va_P D vwCl (wC ad cI cJ cZ σ) H) (hS : va_S (aC ad) s.heap H locs) (hl : lv_has ls 3 [(0, .ref (ad 0)), (1, .int v1), (2, .int v2)]) : W p l e R s m args below meth c H locs 0 0 (MQ below (va_Qi (fun (r : Int32) (u : SS) => r = res ∧ u = σ) (fun u t => va_P D vwCl (wC ad cI cJ cZ u) t.heap) (aC ad)) args s 0 0 (aC ad)) (F0 m 0 ls []) := by
  obtain ⟨hx, hb, hr, hml, hown, hts, hlk⟩ := id hm
  unfold p_X7_under_0 at hf
  refine lv_aload_n hx hb dX7_under_0 rfl (lv_at hl 0 rfl) ?_
  refine va_get (D := D) (ci := 6) (v := .ref (ad 1)) (C := RX7) (T := TX7) (N := 6) hx hb hts in_X7_under_X7 hown hK hP 0 (wC_0 _ _ _ _ _) rfl 0 (by decide) (hts (.fieldLink RX7 10 "CallGraphs" "types" "LCallGraphs$Types;") (List.mem_of_getElem? (i := 1) rfl)) (fun _ h9 => h9) (fC_0_0 _ _) dX7_under_1 ?_
  refine lv_iload_n hx hb dX7_under_4 rfl (lv_at hl 1 rfl) ?_
  obtain ⟨r_5, hg_5, hf⟩ := oc_e hf
  refine mV_ri (wd := wC ad cI cJ cZ) (σ := σ) (As := [.int v1]) (rest := []) ⟨hx, hb, hml, hown, hts⟩ hK hP hD hS (c_X6_knows l D ad cI cJ cZ σ v1 hg_5) (cwV 1 hts gX7_under_X6_knows rfl rfl rfl hd_X6_knows ⟨Nat.le_trans (Nat.le_of_ble_eq_true rfl) hR.1, Nat.le_trans (Nat.le_of_ble_eq_true rfl) hR.2⟩) rfl (wC_1 _ _ _ _ _) rfl hl.1 rfl (Nat.le_of_ble_eq_true rfl) dX7_under_5 (fun H locs hP hS => ?_)
  refine lv_if_eq (tgt := 22) hx hb dX7_under_8 (by decide) (fun c_8 => ?_) (fun c_8 => ?_)
  · rw [if_pos c_8] at hf
    exact w_X7_under_22 hm hR hK hD σ hf _ _ _ hP hS (lv_sub hl [] rfl)
  · rw [if_neg c_8] at hf
    refine lv_aload_n hx hb dX7_under_11 rfl (lv_at hl 0 rfl) ?_
    refine va_get (D := D) (ci := 6) (v := .ref (ad 1)) (C := RX7) (T := TX7) (N := 6) hx hb hts in_X7_under_X7 hown hK hP 0 (wC_0 _ _ _ _ _) rfl 0 (by decide) (hts (.fieldLink RX7 10 "CallGraphs" "types" "LCallGraphs$Types;") (List.mem_of_getElem? (i := 1) rfl)) (fun _ h9 => h9) (fC_0_0 _ _) dX7_under_12 ?_
    refine lv_iload_n hx hb dX7_under_15 rfl (lv_at hl 2 rfl) ?_
    obtain ⟨r_16, hg_16, hf⟩ := oc_e hf
    refine mV_ri (wd := wC ad cI cJ cZ) (σ := σ) (As := [.int v2]) (rest := []) ⟨hx, hb, hml, hown, hts⟩ hK hP hD hS (c_X6_knows l D ad cI cJ cZ σ v2 hg_16) (cwV 1 hts gX7_under_X6_knows rfl rfl rfl hd_X6_knows ⟨Nat.le_trans (Nat.le_of_ble_eq_true rfl) hR.1, Nat.le_trans (Nat.le_of_ble_eq_true rfl) hR.2⟩) rfl (wC_1 _ _ _ _ _) rfl hl.1 rfl (Nat.le_of_ble_eq_true rfl) dX7_under_16 (fun H locs hP hS => ?_)
    refine lv_if_ne (tgt := 25) hx hb dX7_under_19 (by decide) (fun c_19 => ?_) (fun c_19 => ?_)
    · rw [if_neg c_19] at hf
      refine lv_aload_n hx hb dX7_under_25 rfl (lv_at hl 0 rfl) ?_
      refine va_get (D := D) (ci := 6) (v := .ref (ad 1)) (C := RX7) (T := TX7) (N := 6) hx hb hts in_X7_under_X7 hown hK hP 0 (wC_0 _ _ _ _ _) rfl 0 (by decide) (hts (.fieldLink RX7 10 "CallGraphs" "types" "LCallGraphs$Types;") (List.mem_of_getElem? (i := 1) rfl)) (fun _ h9 => h9) (fC_0_0 _ _) dX7_under_26 ?_
      refine lv_iload_n hx hb dX7_under_29 rfl (lv_at hl 1 rfl) ?_
      refine lv_iload_n hx hb dX7_under_30 rfl (lv_at hl 2 rfl) ?_
      obtain ⟨r_31, hg_31, hf⟩ := oc_e hf
      refine mV_ri (wd := wC ad cI cJ cZ) (σ := σ) (As := [.int v1, .int v2]) (rest := []) ⟨hx, hb, hml, hown, hts⟩ hK hP hD hS (c_X6_isUnder l D ad cI cJ cZ σ v1 v2 hg_31) (cwV 2 hts gX7_under_X6_isUnder rfl rfl rfl hd_X6_isUnder ⟨Nat.le_trans (Nat.le_of_ble_eq_true rfl) hR.1, Nat.le_trans (Nat.le_of_ble_eq_true rfl) hR.2⟩) rfl (wC_1 _ _ _ _ _) rfl hl.1 rfl (Nat.le_of_ble_eq_true rfl) dX7_under_31 (fun H locs hP hS => ?_)
      refine lv_if_eq (tgt := 41) hx hb dX7_under_34 (by decide) (fun c_34 => ?_) (fun c_34 => ?_)
      · rw [if_pos c_34] at hf
        refine lv_iconst (v := 0) hx hb dX7_under_41 (by decide) ?_
        exact w_X7_under_42 hm hR hK hD σ 0 hf _ _ _ hP hS (lv_sub hl [] rfl)
      · rw [if_neg c_34] at hf
        refine lv_iconst (v := 1) hx hb dX7_under_37 (by decide) ?_
        refine lv_goto (tgt := 42) hx hb dX7_under_38 (by decide) ?_
        exact w_X7_under_42 hm hR hK hD σ 1 hf _ _ _ hP hS (lv_sub hl [] rfl)
    · rw [if_pos c_19] at hf
      exact w_X7_under_22 hm hR hK hD σ hf _ _ _ hP hS (lv_sub hl [] rfl)
theorem hd_X7_under : yX7_under.cls = RX7 ∧ yX7_under.cls ≠ "java/lang/invoke/MethodHandle" ∧ yX7_under.cls ≠ "java/lang/invoke/VarHandle" ∧ (parseMethodDescriptor yX7_under.desc).map (fun d => d.parameters.length) = some 2 := by decide +kernel
set_option maxHeartbeats 4000000 in
set_option maxRecDepth 100000 in
theorem c_X7_under (l : Launch) (D : va_G) (ad : Nat → Nat) (cI cJ cZ : ClassId) (σ : SS) (v1 : Int32) (v2 : Int32) {res : Int32} (hf : p_X7_under_0 σ v1 v2 = some res) : Met l yX7_under wsX7_under ({ frames := 2, cells := 0, slots := 0, locals := 44 } : Room) (PW D (tyw cI cJ cZ) (wC ad cI cJ cZ σ) [.ref (ad 0), .int v1, .int v2]) (va_Qi (fun (r : Int32) (u : SS) => r = res ∧ u = σ) (fun u t => va_P D vwCl (wC ad cI cJ cZ u) t.heap) (aC ad)) 0 0 (aC ad) := by
  refine Met.ofW (cc := cX7_under) (maxL := 3) (ret := (some .int)) (by decide) rfl ?_
  intro p e s m args below meth c s₁ B hml hv
  obtain ⟨rfl, hP, hK, hD0⟩ := hv
  have hD : ∀ σ, va_D (aC ad) (wC ad cI cJ cZ σ) := fun σ => wd_D hD0 (wC_map _ _ _ _ _) (wC_map _ _ _ _ _)
  have hm : mx p s m _ meth c cX7_under 3 (some .int) wsX7_under RX7 := ⟨B.exec, B.bytes, B.returns, hml, findClass_of_methodNamed B.named, atoms_spec (ws := wsX7_under) B.pre, B.notSynchronized⟩
  have hl := lv_entry ([.ref (ad 0), .int v1, .int v2]) (n := 3) (Nat.le_of_ble_eq_true rfl)
  rw [lg_entry_eq]
  generalize (lg_sl ([.ref (ad 0), .int v1, .int v2]) ++ List.replicate (3 - (lg_sl ([.ref (ad 0), .int v1, .int v2])).length) Slot.unset).toArray = ls at hl ⊢
  exact w_X7_under_0 hm ⟨Nat.le_refl _, Nat.le_refl _⟩ hK hD σ v1 v2 hf _ _ _ hP va_S.rf hl
/-! CallGraphs.found(II)I -/
theorem in_X7_found_X7 : ∀ w ∈ u_ws RX7 TX7 6, w ∈ wsX7_found := fun w h => List.mem_cons_of_mem _ (List.mem_append_left _ (List.mem_append_left _ (List.mem_append_right _ h)))
def p_X7_found_0 (σ : SS) (v1 : Int32) (v2 : Int32) : Option (Int32) := oc (p_X6_knows_0 σ v1) (fun r_5 => if r_5 = 0 then some (-101) else oc (p_X7_isName_0 v2) (fun r_15 => if r_15 = 0 then some (-102) else oc (p_X1_find_0 σ v1 v2) (fun r_30 => some r_30)))
set_option maxHeartbeats 4000000 in
set_option maxRecDepth 100000 in
theorem w_X7_found_0 {p : Program} {l : Launch} {e : Env} {R : Room} {s : State} {m : MethodId} {args : Array Value} {below : List Frame} {meth : Method} {c : Code} {D : va_G} {ad : Nat → Nat} {cI cJ cZ : ClassId} {res : Int32} (hm : mx p s m args meth c cX7_found 3 (some .int) wsX7_found RX7) (hR : 1 ≤ R.frames ∧ 22 ≤ R.locals) (hK : va_K D vwCl (tyw cI cJ cZ) s) (hD : ∀ σ, va_D (aC ad) (wC ad cI cJ cZ σ)) (σ : SS) (v1 : Int32) (v2 : Int32) (hf : p_X7_found_0 σ v1 v2 = some res) (H : Heap) (locs : List Loc) (ls : Array Slot) (hP : va_P D vwCl (wC ad cI cJ cZ σ) H) (hS : va_S (aC ad) s.heap H locs) (hl : lv_has ls 3 [(0, .ref (ad 0)), (1, .int v1), (2, .int v2)]) : W p l e R s m args below meth c H locs 0 0 (MQ below (va_Qi (fun (r : Int32) (u : SS) => r = res ∧ u = σ) (fun u t => va_P D vwCl (wC ad cI cJ cZ u) t.heap) (aC ad)) args s 0 0 (aC ad)) (F0 m 0 ls []) := by
  obtain ⟨hx, hb, hr, hml, hown, hts, hlk⟩ := id hm
  unfold p_X7_found_0 at hf
  refine lv_aload_n hx hb dX7_found_0 rfl (lv_at hl 0 rfl) ?_
  refine va_get (D := D) (ci := 6) (v := .ref (ad 1)) (C := RX7) (T := TX7) (N := 6) hx hb hts in_X7_found_X7 hown hK hP 0 (wC_0 _ _ _ _ _) rfl 0 (by decide) (hts (.fieldLink RX7 10 "CallGraphs" "types" "LCallGraphs$Types;") (List.mem_of_getElem? (i := 1) rfl)) (fun _ h9 => h9) (fC_0_0 _ _) dX7_found_1 ?_
  refine lv_iload_n hx hb dX7_found_4 rfl (lv_at hl 1 rfl) ?_
  obtain ⟨r_5, hg_5, hf⟩ := oc_e hf
  refine mV_ri (wd := wC ad cI cJ cZ) (σ := σ) (As := [.int v1]) (rest := []) ⟨hx, hb, hml, hown, hts⟩ hK hP hD hS (c_X6_knows l D ad cI cJ cZ σ v1 hg_5) (cwV 1 hts gX7_found_X6_knows rfl rfl rfl hd_X6_knows ⟨Nat.le_trans (Nat.le_of_ble_eq_true rfl) hR.1, Nat.le_trans (Nat.le_of_ble_eq_true rfl) hR.2⟩) rfl (wC_1 _ _ _ _ _) rfl hl.1 rfl (Nat.le_of_ble_eq_true rfl) dX7_found_5 (fun H locs hP hS => ?_)
  refine lv_if_ne (tgt := 14) hx hb dX7_found_8 (by decide) (fun c_8 => ?_) (fun c_8 => ?_)
  · rw [if_neg c_8] at hf
    refine lv_iload_n hx hb dX7_found_14 rfl (lv_at hl 2 rfl) ?_
    obtain ⟨r_15, hg_15, hf⟩ := oc_e hf
    refine mS_i (D := D) (As := [.int v2]) (rest := []) ⟨hx, hb, hml, hown, hts⟩ hP hS (c_X7_isName l v2 hg_15) (va_cwS 1 hts gX7_found_X7_isName rfl rfl rfl hd_X7_isName ⟨Nat.le_trans (Nat.le_of_ble_eq_true rfl) hR.1, Nat.le_trans (Nat.le_of_ble_eq_true rfl) hR.2⟩) rfl hl.1 rfl (Nat.le_of_ble_eq_true rfl) dX7_found_15 (fun H locs hP hS => ?_)
    refine lv_if_ne (tgt := 24) hx hb dX7_found_18 (by decide) (fun c_18 => ?_) (fun c_18 => ?_)
    · rw [if_neg c_18] at hf
      refine lv_aload_n hx hb dX7_found_24 rfl (lv_at hl 0 rfl) ?_
      refine va_get (D := D) (ci := 6) (v := .ref (ad 3)) (C := RX7) (T := TX7) (N := 6) hx hb hts in_X7_found_X7 hown hK hP 0 (wC_0 _ _ _ _ _) rfl 2 (by decide) (hts (.fieldLink RX7 30 "CallGraphs" "choices" "LCallGraphs$Choices;") (List.mem_of_getElem? (i := 2) rfl)) (fun _ h9 => h9) (fC_0_2 _ _) dX7_found_25 ?_
      refine lv_iload_n hx hb dX7_found_28 rfl (lv_at hl 1 rfl) ?_
      refine lv_iload_n hx hb dX7_found_29 rfl (lv_at hl 2 rfl) ?_
      obtain ⟨r_30, hg_30, hf⟩ := oc_e hf
      refine mV_ri (wd := wC ad cI cJ cZ) (σ := σ) (As := [.int v1, .int v2]) (rest := []) ⟨hx, hb, hml, hown, hts⟩ hK hP hD hS (c_X1_find l D ad cI cJ cZ σ v1 v2 hg_30) (cwV 2 hts gX7_found_X1_find rfl rfl rfl hd_X1_find ⟨Nat.le_trans (Nat.le_of_ble_eq_true rfl) hR.1, Nat.le_trans (Nat.le_of_ble_eq_true rfl) hR.2⟩) rfl (wC_3 _ _ _ _ _) rfl hl.1 rfl (Nat.le_of_ble_eq_true rfl) dX7_found_30 (fun H locs hP hS => ?_)
      exact rt_i (wd := wC ad cI cJ cZ) hx hb hr hlk ⟨Option.some.inj hf, rfl⟩ hP hS dX7_found_33
    · rw [if_pos c_18] at hf
      refine lv_bipush (v := (-102)) hx hb dX7_found_21 (by decide) ?_
      exact rt_i (wd := wC ad cI cJ cZ) hx hb hr hlk ⟨Option.some.inj hf, rfl⟩ hP hS dX7_found_23
  · rw [if_pos c_8] at hf
    refine lv_bipush (v := (-101)) hx hb dX7_found_11 (by decide) ?_
    exact rt_i (wd := wC ad cI cJ cZ) hx hb hr hlk ⟨Option.some.inj hf, rfl⟩ hP hS dX7_found_13
theorem hd_X7_found : yX7_found.cls = RX7 ∧ yX7_found.cls ≠ "java/lang/invoke/MethodHandle" ∧ yX7_found.cls ≠ "java/lang/invoke/VarHandle" ∧ (parseMethodDescriptor yX7_found.desc).map (fun d => d.parameters.length) = some 2 := by decide +kernel
set_option maxHeartbeats 4000000 in
set_option maxRecDepth 100000 in
theorem c_X7_found (l : Launch) (D : va_G) (ad : Nat → Nat) (cI cJ cZ : ClassId) (σ : SS) (v1 : Int32) (v2 : Int32) {res : Int32} (hf : p_X7_found_0 σ v1 v2 = some res) : Met l yX7_found wsX7_found ({ frames := 1, cells := 0, slots := 0, locals := 22 } : Room) (PW D (tyw cI cJ cZ) (wC ad cI cJ cZ σ) [.ref (ad 0), .int v1, .int v2]) (va_Qi (fun (r : Int32) (u : SS) => r = res ∧ u = σ) (fun u t => va_P D vwCl (wC ad cI cJ cZ u) t.heap) (aC ad)) 0 0 (aC ad) := by
  refine Met.ofW (cc := cX7_found) (maxL := 3) (ret := (some .int)) (by decide) rfl ?_
  intro p e s m args below meth c s₁ B hml hv
  obtain ⟨rfl, hP, hK, hD0⟩ := hv
  have hD : ∀ σ, va_D (aC ad) (wC ad cI cJ cZ σ) := fun σ => wd_D hD0 (wC_map _ _ _ _ _) (wC_map _ _ _ _ _)
  have hm : mx p s m _ meth c cX7_found 3 (some .int) wsX7_found RX7 := ⟨B.exec, B.bytes, B.returns, hml, findClass_of_methodNamed B.named, atoms_spec (ws := wsX7_found) B.pre, B.notSynchronized⟩
  have hl := lv_entry ([.ref (ad 0), .int v1, .int v2]) (n := 3) (Nat.le_of_ble_eq_true rfl)
  rw [lg_entry_eq]
  generalize (lg_sl ([.ref (ad 0), .int v1, .int v2]) ++ List.replicate (3 - (lg_sl ([.ref (ad 0), .int v1, .int v2])).length) Slot.unset).toArray = ls at hl ⊢
  exact w_X7_found_0 hm ⟨Nat.le_refl _, Nat.le_refl _⟩ hK hD σ v1 v2 hf _ _ _ hP va_S.rf hl
/-! CallGraphs.chosen(III)I -/
theorem in_X7_chosen_X7 : ∀ w ∈ u_ws RX7 TX7 6, w ∈ wsX7_chosen := fun w h => List.mem_cons_of_mem _ (List.mem_append_left _ (List.mem_append_left _ (List.mem_append_left _ (List.mem_append_right _ h))))
def p_X7_chosen_22 (σ : SS) : Option (Int32) := some (-101)
set_option maxHeartbeats 4000000 in
set_option maxRecDepth 100000 in
theorem w_X7_chosen_22 {p : Program} {l : Launch} {e : Env} {R : Room} {s : State} {m : MethodId} {args : Array Value} {below : List Frame} {meth : Method} {c : Code} {D : va_G} {ad : Nat → Nat} {cI cJ cZ : ClassId} {res : Int32} (hm : mx p s m args meth c cX7_chosen 4 (some .int) wsX7_chosen RX7) (hR : 2 ≤ R.frames ∧ 46 ≤ R.locals) (hK : va_K D vwCl (tyw cI cJ cZ) s) (hD : ∀ σ, va_D (aC ad) (wC ad cI cJ cZ σ)) (σ : SS) (hf : p_X7_chosen_22 σ = some res) (H : Heap) (locs : List Loc) (ls : Array Slot) (hP : va_P D vwCl (wC ad cI cJ cZ σ) H) (hS : va_S (aC ad) s.heap H locs) (hl : lv_has ls 4 []) : W p l e R s m args below meth c H locs 0 0 (MQ below (va_Qi (fun (r : Int32) (u : SS) => r = res ∧ u = σ) (fun u t => va_P D vwCl (wC ad cI cJ cZ u) t.heap) (aC ad)) args s 0 0 (aC ad)) (F0 m 22 ls []) := by
  obtain ⟨hx, hb, hr, hml, hown, hts, hlk⟩ := id hm
  unfold p_X7_chosen_22 at hf
  refine lv_bipush (v := (-101)) hx hb dX7_chosen_22 (by decide) ?_
  exact rt_i (wd := wC ad cI cJ cZ) hx hb hr hlk ⟨Option.some.inj hf, rfl⟩ hP hS dX7_chosen_24
def p_X7_chosen_44 (σ : SS) : Option (Int32) := some (-102)
set_option maxHeartbeats 4000000 in
set_option maxRecDepth 100000 in
theorem w_X7_chosen_44 {p : Program} {l : Launch} {e : Env} {R : Room} {s : State} {m : MethodId} {args : Array Value} {below : List Frame} {meth : Method} {c : Code} {D : va_G} {ad : Nat → Nat} {cI cJ cZ : ClassId} {res : Int32} (hm : mx p s m args meth c cX7_chosen 4 (some .int) wsX7_chosen RX7) (hR : 2 ≤ R.frames ∧ 46 ≤ R.locals) (hK : va_K D vwCl (tyw cI cJ cZ) s) (hD : ∀ σ, va_D (aC ad) (wC ad cI cJ cZ σ)) (σ : SS) (hf : p_X7_chosen_44 σ = some res) (H : Heap) (locs : List Loc) (ls : Array Slot) (hP : va_P D vwCl (wC ad cI cJ cZ σ) H) (hS : va_S (aC ad) s.heap H locs) (hl : lv_has ls 4 []) : W p l e R s m args below meth c H locs 0 0 (MQ below (va_Qi (fun (r : Int32) (u : SS) => r = res ∧ u = σ) (fun u t => va_P D vwCl (wC ad cI cJ cZ u) t.heap) (aC ad)) args s 0 0 (aC ad)) (F0 m 44 ls []) := by
  obtain ⟨hx, hb, hr, hml, hown, hts, hlk⟩ := id hm
  unfold p_X7_chosen_44 at hf
  refine lv_bipush (v := (-102)) hx hb dX7_chosen_44 (by decide) ?_
  exact rt_i (wd := wC ad cI cJ cZ) hx hb hr hlk ⟨Option.some.inj hf, rfl⟩ hP hS dX7_chosen_46
def p_X7_chosen_0 (σ : SS) (v1 : Int32) (v2 : Int32) (v3 : Int32) : Option (Int32) := oc (p_X6_knows_0 σ v1) (fun r_5 => if r_5 = 0 then p_X7_chosen_22 σ else oc (p_X6_knows_0 σ v2) (fun r_16 => if r_16 = 0 then p_X7_chosen_22 σ else oc (p_X7_isName_0 v3) (fun r_26 => if r_26 = 0 then p_X7_chosen_44 σ else oc (p_X6_isUnder_0 σ v1 v2) (fun r_38 => if r_38 = 0 then p_X7_chosen_44 σ else oc (p_X1_choose_0 σ v1 v2 v3) (fun r_54 => some r_54)))))
set_option maxHeartbeats 4000000 in
set_option maxRecDepth 100000 in
theorem w_X7_chosen_0 {p : Program} {l : Launch} {e : Env} {R : Room} {s : State} {m : MethodId} {args : Array Value} {below : List Frame} {meth : Method} {c : Code} {D : va_G} {ad : Nat → Nat} {cI cJ cZ : ClassId} {res : Int32} (hm : mx p s m args meth c cX7_chosen 4 (some .int) wsX7_chosen RX7) (hR : 2 ≤ R.frames ∧ 46 ≤ R.locals) (hK : va_K D vwCl (tyw cI cJ cZ) s) (hD : ∀ σ, va_D (aC ad) (wC ad cI cJ cZ σ)) (σ : SS) (v1 : Int32) (v2 : Int32) (v3 : Int32) (hf : p_X7_chosen_0 σ v1 v2 v3 = some res) (H : Heap) (locs : List Loc) (ls : Array Slot) (hP : va_P D vwCl (wC ad cI cJ cZ σ) H) (hS : va_S (aC ad) s.heap H locs) (hl : lv_has ls 4 [(0, .ref (ad 0)), (1, .int v1), (2, .int v2), (3, .int v3)]) : W p l e R s m args below meth c H locs 0 0 (MQ below (va_Qi (fun (r : Int32) (u : SS) => r = res ∧ u = σ) (fun u t => va_P D vwCl (wC ad cI cJ cZ u) t.heap) (aC ad)) args s 0 0 (aC ad)) (F0 m 0 ls []) := by
  obtain ⟨hx, hb, hr, hml, hown, hts, hlk⟩ := id hm
  unfold p_X7_chosen_0 at hf
  refine lv_aload_n hx hb dX7_chosen_0 rfl (lv_at hl 0 rfl) ?_
  refine va_get (D := D) (ci := 6) (v := .ref (ad 1)) (C := RX7) (T := TX7) (N := 6) hx hb hts in_X7_chosen_X7 hown hK hP 0 (wC_0 _ _ _ _ _) rfl 0 (by decide) (hts (.fieldLink RX7 10 "CallGraphs" "types" "LCallGraphs$Types;") (List.mem_of_getElem? (i := 1) rfl)) (fun _ h9 => h9) (fC_0_0 _ _) dX7_chosen_1 ?_
  refine lv_iload_n hx hb dX7_chosen_4 rfl (lv_at hl 1 rfl) ?_
  obtain ⟨r_5, hg_5, hf⟩ := oc_e hf
  refine mV_ri (wd := wC ad cI cJ cZ) (σ := σ) (As := [.int v1]) (rest := []) ⟨hx, hb, hml, hown, hts⟩ hK hP hD hS (c_X6_knows l D ad cI cJ cZ σ v1 hg_5) (cwV 1 hts gX7_chosen_X6_knows rfl rfl rfl hd_X6_knows ⟨Nat.le_trans (Nat.le_of_ble_eq_true rfl) hR.1, Nat.le_trans (Nat.le_of_ble_eq_true rfl) hR.2⟩) rfl (wC_1 _ _ _ _ _) rfl hl.1 rfl (Nat.le_of_ble_eq_true rfl) dX7_chosen_5 (fun H locs hP hS => ?_)
  refine lv_if_eq (tgt := 22) hx hb dX7_chosen_8 (by decide) (fun c_8 => ?_) (fun c_8 => ?_)
  · rw [if_pos c_8] at hf
    exact w_X7_chosen_22 hm hR hK hD σ hf _ _ _ hP hS (lv_sub hl [] rfl)
  · rw [if_neg c_8] at hf
    refine lv_aload_n hx hb dX7_chosen_11 rfl (lv_at hl 0 rfl) ?_
    refine va_get (D := D) (ci := 6) (v := .ref (ad 1)) (C := RX7) (T := TX7) (N := 6) hx hb hts in_X7_chosen_X7 hown hK hP 0 (wC_0 _ _ _ _ _) rfl 0 (by decide) (hts (.fieldLink RX7 10 "CallGraphs" "types" "LCallGraphs$Types;") (List.mem_of_getElem? (i := 1) rfl)) (fun _ h9 => h9) (fC_0_0 _ _) dX7_chosen_12 ?_
    refine lv_iload_n hx hb dX7_chosen_15 rfl (lv_at hl 2 rfl) ?_
    obtain ⟨r_16, hg_16, hf⟩ := oc_e hf
    refine mV_ri (wd := wC ad cI cJ cZ) (σ := σ) (As := [.int v2]) (rest := []) ⟨hx, hb, hml, hown, hts⟩ hK hP hD hS (c_X6_knows l D ad cI cJ cZ σ v2 hg_16) (cwV 1 hts gX7_chosen_X6_knows rfl rfl rfl hd_X6_knows ⟨Nat.le_trans (Nat.le_of_ble_eq_true rfl) hR.1, Nat.le_trans (Nat.le_of_ble_eq_true rfl) hR.2⟩) rfl (wC_1 _ _ _ _ _) rfl hl.1 rfl (Nat.le_of_ble_eq_true rfl) dX7_chosen_16 (fun H locs hP hS => ?_)
    refine lv_if_ne (tgt := 25) hx hb dX7_chosen_19 (by decide) (fun c_19 => ?_) (fun c_19 => ?_)
    · rw [if_neg c_19] at hf
      refine lv_iload_n hx hb dX7_chosen_25 rfl (lv_at hl 3 rfl) ?_
      obtain ⟨r_26, hg_26, hf⟩ := oc_e hf
      refine mS_i (D := D) (As := [.int v3]) (rest := []) ⟨hx, hb, hml, hown, hts⟩ hP hS (c_X7_isName l v3 hg_26) (va_cwS 1 hts gX7_chosen_X7_isName rfl rfl rfl hd_X7_isName ⟨Nat.le_trans (Nat.le_of_ble_eq_true rfl) hR.1, Nat.le_trans (Nat.le_of_ble_eq_true rfl) hR.2⟩) rfl hl.1 rfl (Nat.le_of_ble_eq_true rfl) dX7_chosen_26 (fun H locs hP hS => ?_)
      refine lv_if_eq (tgt := 44) hx hb dX7_chosen_29 (by decide) (fun c_29 => ?_) (fun c_29 => ?_)
      · rw [if_pos c_29] at hf
        exact w_X7_chosen_44 hm hR hK hD σ hf _ _ _ hP hS (lv_sub hl [] rfl)
      · rw [if_neg c_29] at hf
        refine lv_aload_n hx hb dX7_chosen_32 rfl (lv_at hl 0 rfl) ?_
        refine va_get (D := D) (ci := 6) (v := .ref (ad 1)) (C := RX7) (T := TX7) (N := 6) hx hb hts in_X7_chosen_X7 hown hK hP 0 (wC_0 _ _ _ _ _) rfl 0 (by decide) (hts (.fieldLink RX7 10 "CallGraphs" "types" "LCallGraphs$Types;") (List.mem_of_getElem? (i := 1) rfl)) (fun _ h9 => h9) (fC_0_0 _ _) dX7_chosen_33 ?_
        refine lv_iload_n hx hb dX7_chosen_36 rfl (lv_at hl 1 rfl) ?_
        refine lv_iload_n hx hb dX7_chosen_37 rfl (lv_at hl 2 rfl) ?_
        obtain ⟨r_38, hg_38, hf⟩ := oc_e hf
        refine mV_ri (wd := wC ad cI cJ cZ) (σ := σ) (As := [.int v1, .int v2]) (rest := []) ⟨hx, hb, hml, hown, hts⟩ hK hP hD hS (c_X6_isUnder l D ad cI cJ cZ σ v1 v2 hg_38) (cwV 2 hts gX7_chosen_X6_isUnder rfl rfl rfl hd_X6_isUnder ⟨Nat.le_trans (Nat.le_of_ble_eq_true rfl) hR.1, Nat.le_trans (Nat.le_of_ble_eq_true rfl) hR.2⟩) rfl (wC_1 _ _ _ _ _) rfl hl.1 rfl (Nat.le_of_ble_eq_true rfl) dX7_chosen_38 (fun H locs hP hS => ?_)
        refine lv_if_ne (tgt := 47) hx hb dX7_chosen_41 (by decide) (fun c_41 => ?_) (fun c_41 => ?_)
        · rw [if_neg c_41] at hf
          refine lv_aload_n hx hb dX7_chosen_47 rfl (lv_at hl 0 rfl) ?_
          refine va_get (D := D) (ci := 6) (v := .ref (ad 3)) (C := RX7) (T := TX7) (N := 6) hx hb hts in_X7_chosen_X7 hown hK hP 0 (wC_0 _ _ _ _ _) rfl 2 (by decide) (hts (.fieldLink RX7 30 "CallGraphs" "choices" "LCallGraphs$Choices;") (List.mem_of_getElem? (i := 2) rfl)) (fun _ h9 => h9) (fC_0_2 _ _) dX7_chosen_48 ?_
          refine lv_iload_n hx hb dX7_chosen_51 rfl (lv_at hl 1 rfl) ?_
          refine lv_iload_n hx hb dX7_chosen_52 rfl (lv_at hl 2 rfl) ?_
          refine lv_iload_n hx hb dX7_chosen_53 rfl (lv_at hl 3 rfl) ?_
          obtain ⟨r_54, hg_54, hf⟩ := oc_e hf
          refine mV_ri (wd := wC ad cI cJ cZ) (σ := σ) (As := [.int v1, .int v2, .int v3]) (rest := []) ⟨hx, hb, hml, hown, hts⟩ hK hP hD hS (c_X1_choose l D ad cI cJ cZ σ v1 v2 v3 hg_54) (cwV 3 hts gX7_chosen_X1_choose rfl rfl rfl hd_X1_choose ⟨Nat.le_trans (Nat.le_of_ble_eq_true rfl) hR.1, Nat.le_trans (Nat.le_of_ble_eq_true rfl) hR.2⟩) rfl (wC_3 _ _ _ _ _) rfl hl.1 rfl (Nat.le_of_ble_eq_true rfl) dX7_chosen_54 (fun H locs hP hS => ?_)
          exact rt_i (wd := wC ad cI cJ cZ) hx hb hr hlk ⟨Option.some.inj hf, rfl⟩ hP hS dX7_chosen_57
        · rw [if_pos c_41] at hf
          exact w_X7_chosen_44 hm hR hK hD σ hf _ _ _ hP hS (lv_sub hl [] rfl)
    · rw [if_pos c_19] at hf
      exact w_X7_chosen_22 hm hR hK hD σ hf _ _ _ hP hS (lv_sub hl [] rfl)
theorem hd_X7_chosen : yX7_chosen.cls = RX7 ∧ yX7_chosen.cls ≠ "java/lang/invoke/MethodHandle" ∧ yX7_chosen.cls ≠ "java/lang/invoke/VarHandle" ∧ (parseMethodDescriptor yX7_chosen.desc).map (fun d => d.parameters.length) = some 3 := by decide +kernel
set_option maxHeartbeats 4000000 in
set_option maxRecDepth 100000 in
theorem c_X7_chosen (l : Launch) (D : va_G) (ad : Nat → Nat) (cI cJ cZ : ClassId) (σ : SS) (v1 : Int32) (v2 : Int32) (v3 : Int32) {res : Int32} (hf : p_X7_chosen_0 σ v1 v2 v3 = some res) : Met l yX7_chosen wsX7_chosen ({ frames := 2, cells := 0, slots := 0, locals := 46 } : Room) (PW D (tyw cI cJ cZ) (wC ad cI cJ cZ σ) [.ref (ad 0), .int v1, .int v2, .int v3]) (va_Qi (fun (r : Int32) (u : SS) => r = res ∧ u = σ) (fun u t => va_P D vwCl (wC ad cI cJ cZ u) t.heap) (aC ad)) 0 0 (aC ad) := by
  refine Met.ofW (cc := cX7_chosen) (maxL := 4) (ret := (some .int)) (by decide) rfl ?_
  intro p e s m args below meth c s₁ B hml hv
  obtain ⟨rfl, hP, hK, hD0⟩ := hv
  have hD : ∀ σ, va_D (aC ad) (wC ad cI cJ cZ σ) := fun σ => wd_D hD0 (wC_map _ _ _ _ _) (wC_map _ _ _ _ _)
  have hm : mx p s m _ meth c cX7_chosen 4 (some .int) wsX7_chosen RX7 := ⟨B.exec, B.bytes, B.returns, hml, findClass_of_methodNamed B.named, atoms_spec (ws := wsX7_chosen) B.pre, B.notSynchronized⟩
  have hl := lv_entry ([.ref (ad 0), .int v1, .int v2, .int v3]) (n := 4) (Nat.le_of_ble_eq_true rfl)
  rw [lg_entry_eq]
  generalize (lg_sl ([.ref (ad 0), .int v1, .int v2, .int v3]) ++ List.replicate (4 - (lg_sl ([.ref (ad 0), .int v1, .int v2, .int v3])).length) Slot.unset).toArray = ls at hl ⊢
  exact w_X7_chosen_0 hm ⟨Nat.le_refl _, Nat.le_refl _⟩ hK hD σ v1 v2 v3 hf _ _ _ hP va_S.rf hl
/-! CallGraphs.about(II)I -/
theorem in_X7_about_X7 : ∀ w ∈ u_ws RX7 TX7 6, w ∈ wsX7_about := fun w h => List.mem_cons_of_mem _ (List.mem_append_left _ (List.mem_append_left _ (List.mem_append_left _ (List.mem_append_left _ (List.mem_append_left _ (List.mem_append_right _ h))))))
def p_X7_about_23 (σ : SS) : Option (Int32 × SS) := some ((-102), σ)
set_option maxHeartbeats 4000000 in
set_option maxRecDepth 100000 in
theorem w_X7_about_23 {p : Program} {l : Launch} {e : Env} {R : Room} {s : State} {m : MethodId} {args : Array Value} {below : List Frame} {meth : Method} {c : Code} {D : va_G} {ad : Nat → Nat} {cI cJ cZ : ClassId} {res : Int32 × SS} (hm : mx p s m args meth c cX7_about 3 (some .int) wsX7_about RX7) (hR : 7 ≤ R.frames ∧ 158 ≤ R.locals) (hK : va_K D vwCl (tyw cI cJ cZ) s) (hD : ∀ σ, va_D (aC ad) (wC ad cI cJ cZ σ)) (σ : SS) (hf : p_X7_about_23 σ = some res) (H : Heap) (locs : List Loc) (ls : Array Slot) (hP : va_P D vwCl (wC ad cI cJ cZ σ) H) (hS : va_S (aC ad) s.heap H locs) (hl : lv_has ls 3 []) : W p l e R s m args below meth c H locs 0 0 (MQ below (va_Qi (fun (r : Int32) (u : SS) => (r, u) = res) (fun u t => va_P D vwCl (wC ad cI cJ cZ u) t.heap) (aC ad)) args s 0 0 (aC ad)) (F0 m 23 ls []) := by
  obtain ⟨hx, hb, hr, hml, hown, hts, hlk⟩ := id hm
  unfold p_X7_about_23 at hf
  refine lv_bipush (v := (-102)) hx hb dX7_about_23 (by decide) ?_
  exact rt_i (wd := wC ad cI cJ cZ) hx hb hr hlk (Option.some.inj hf) hP hS dX7_about_25
def p_X7_about_83 (t0 : Int32) (σ : SS) : Option (Int32 × SS) := some (t0, σ)
set_option maxHeartbeats 4000000 in
set_option maxRecDepth 100000 in
theorem w_X7_about_83 {p : Program} {l : Launch} {e : Env} {R : Room} {s : State} {m : MethodId} {args : Array Value} {below : List Frame} {meth : Method} {c : Code} {D : va_G} {ad : Nat → Nat} {cI cJ cZ : ClassId} {res : Int32 × SS} (hm : mx p s m args meth c cX7_about 3 (some .int) wsX7_about RX7) (hR : 7 ≤ R.frames ∧ 158 ≤ R.locals) (hK : va_K D vwCl (tyw cI cJ cZ) s) (hD : ∀ σ, va_D (aC ad) (wC ad cI cJ cZ σ)) (t0 : Int32) (σ : SS) (hf : p_X7_about_83 t0 σ = some res) (H : Heap) (locs : List Loc) (ls : Array Slot) (hP : va_P D vwCl (wC ad cI cJ cZ σ) H) (hS : va_S (aC ad) s.heap H locs) (hl : lv_has ls 3 []) : W p l e R s m args below meth c H locs 0 0 (MQ below (va_Qi (fun (r : Int32) (u : SS) => (r, u) = res) (fun u t => va_P D vwCl (wC ad cI cJ cZ u) t.heap) (aC ad)) args s 0 0 (aC ad)) (F0 m 83 ls [.int t0]) := by
  obtain ⟨hx, hb, hr, hml, hown, hts, hlk⟩ := id hm
  unfold p_X7_about_83 at hf
  exact rt_i (wd := wC ad cI cJ cZ) hx hb hr hlk (Option.some.inj hf) hP hS dX7_about_83
def p_X7_about_100 (t0 : Int32) (σ : SS) : Option (Int32 × SS) := some (t0, σ)
set_option maxHeartbeats 4000000 in
set_option maxRecDepth 100000 in
theorem w_X7_about_100 {p : Program} {l : Launch} {e : Env} {R : Room} {s : State} {m : MethodId} {args : Array Value} {below : List Frame} {meth : Method} {c : Code} {D : va_G} {ad : Nat → Nat} {cI cJ cZ : ClassId} {res : Int32 × SS} (hm : mx p s m args meth c cX7_about 3 (some .int) wsX7_about RX7) (hR : 7 ≤ R.frames ∧ 158 ≤ R.locals) (hK : va_K D vwCl (tyw cI cJ cZ) s) (hD : ∀ σ, va_D (aC ad) (wC ad cI cJ cZ σ)) (t0 : Int32) (σ : SS) (hf : p_X7_about_100 t0 σ = some res) (H : Heap) (locs : List Loc) (ls : Array Slot) (hP : va_P D vwCl (wC ad cI cJ cZ σ) H) (hS : va_S (aC ad) s.heap H locs) (hl : lv_has ls 3 []) : W p l e R s m args below meth c H locs 0 0 (MQ below (va_Qi (fun (r : Int32) (u : SS) => (r, u) = res) (fun u t => va_P D vwCl (wC ad cI cJ cZ u) t.heap) (aC ad)) args s 0 0 (aC ad)) (F0 m 100 ls [.int t0]) := by
  obtain ⟨hx, hb, hr, hml, hown, hts, hlk⟩ := id hm
  unfold p_X7_about_100 at hf
  exact rt_i (wd := wC ad cI cJ cZ) hx hb hr hlk (Option.some.inj hf) hP hS dX7_about_100
def p_X7_about_0 (v1 : Int32) (v2 : Int32) (σ : SS) : Option (Int32 × SS) := oc (p_X4_knows_0 σ v1) (fun r_5 => if r_5 = 0 then some ((-101), σ) else if v2 < 0 then p_X7_about_23 σ else if v2 ≤ 4 then oc (p_X3_refresh_0 σ) (fun r_30 => (if v2 = 0 then oc (p_X3_reached_0 r_30) (fun r_68 => oc (p_X0_has_0 r_68 v1) (fun r_72 => if r_72 = 0 then p_X7_about_83 0 r_30 else p_X7_about_83 1 r_30)) else if v2 = 1 then oc (p_X3_isRecursive_0 r_30 v1) (fun r_89 => if r_89 = 0 then p_X7_about_100 0 r_30 else p_X7_about_100 1 r_30) else if v2 = 2 then oc (p_X3_callersOf_0 r_30 v1) (fun r_106 => oc (p_J13_bitCount_95d88_0 r_106) (fun r_109 => some (r_109, r_30))) else if v2 = 3 then oc (p_X3_ringOf_0 r_30 v1) (fun r_118 => oc (p_J13_bitCount_95d88_0 r_118) (fun r_121 => some (r_121, r_30))) else oc (p_X3_ringOf_0 r_30 v1) (fun r_130 => oc (p_X0_least_0 r_130) (fun r_133 => some (r_133, r_30))))) else p_X7_about_23 σ)
set_option maxHeartbeats 4000000 in
set_option maxRecDepth 100000 in
theorem w_X7_about_0 {p : Program} {l : Launch} {e : Env} {R : Room} {s : State} {m : MethodId} {args : Array Value} {below : List Frame} {meth : Method} {c : Code} {D : va_G} {ad : Nat → Nat} {cI cJ cZ : ClassId} {res : Int32 × SS} (hm : mx p s m args meth c cX7_about 3 (some .int) wsX7_about RX7) (hR : 7 ≤ R.frames ∧ 158 ≤ R.locals) (hK : va_K D vwCl (tyw cI cJ cZ) s) (hD : ∀ σ, va_D (aC ad) (wC ad cI cJ cZ σ)) (v1 : Int32) (v2 : Int32) (σ : SS) (hf : p_X7_about_0 v1 v2 σ = some res) (H : Heap) (locs : List Loc) (ls : Array Slot) (hP : va_P D vwCl (wC ad cI cJ cZ σ) H) (hS : va_S (aC ad) s.heap H locs) (hl : lv_has ls 3 [(0, .ref (ad 0)), (1, .int v1), (2, .int v2)]) : W p l e R s m args below meth c H locs 0 0 (MQ below (va_Qi (fun (r : Int32) (u : SS) => (r, u) = res) (fun u t => va_P D vwCl (wC ad cI cJ cZ u) t.heap) (aC ad)) args s 0 0 (aC ad)) (F0 m 0 ls []) := by
  obtain ⟨hx, hb, hr, hml, hown, hts, hlk⟩ := id hm
  unfold p_X7_about_0 at hf
  refine lv_aload_n hx hb dX7_about_0 rfl (lv_at hl 0 rfl) ?_
  refine va_get (D := D) (ci := 6) (v := .ref (ad 2)) (C := RX7) (T := TX7) (N := 6) hx hb hts in_X7_about_X7 hown hK hP 0 (wC_0 _ _ _ _ _) rfl 1 (by decide) (hts (.fieldLink RX7 21 "CallGraphs" "members" "LCallGraphs$Members;") (List.mem_of_getElem? (i := 1) rfl)) (fun _ h9 => h9) (fC_0_1 _ _) dX7_about_1 ?_
  refine lv_iload_n hx hb dX7_about_4 rfl (lv_at hl 1 rfl) ?_
  obtain ⟨r_5, hg_5, hf⟩ := oc_e hf
  refine mV_ri (wd := wC ad cI cJ cZ) (σ := σ) (As := [.int v1]) (rest := []) ⟨hx, hb, hml, hown, hts⟩ hK hP hD hS (c_X4_knows l D ad cI cJ cZ σ v1 hg_5) (cwV 1 hts gX7_about_X4_knows rfl rfl rfl hd_X4_knows ⟨Nat.le_trans (Nat.le_of_ble_eq_true rfl) hR.1, Nat.le_trans (Nat.le_of_ble_eq_true rfl) hR.2⟩) rfl (wC_2 _ _ _ _ _) rfl hl.1 rfl (Nat.le_of_ble_eq_true rfl) dX7_about_5 (fun H locs hP hS => ?_)
  refine lv_if_ne (tgt := 14) hx hb dX7_about_8 (by decide) (fun c_8 => ?_) (fun c_8 => ?_)
  · rw [if_neg c_8] at hf
    refine lv_iload_n hx hb dX7_about_14 rfl (lv_at hl 2 rfl) ?_
    refine lv_if_lt (tgt := 23) hx hb dX7_about_15 (by decide) (fun c_15 => ?_) (fun c_15 => ?_)
    · rw [if_pos c_15] at hf
      exact w_X7_about_23 hm hR hK hD σ hf _ _ _ hP hS (lv_sub hl [] rfl)
    · rw [if_neg c_15] at hf
      refine lv_iload_n hx hb dX7_about_18 rfl (lv_at hl 2 rfl) ?_
      refine lv_iconst (v := 4) hx hb dX7_about_19 (by decide) ?_
      refine lv_icmp_le (tgt := 26) hx hb dX7_about_20 (by decide) (fun c_20 => ?_) (fun c_20 => ?_)
      · rw [if_pos c_20] at hf
        refine lv_aload_n hx hb dX7_about_26 rfl (lv_at hl 0 rfl) ?_
        refine va_get (D := D) (ci := 6) (v := .ref (ad 5)) (C := RX7) (T := TX7) (N := 6) hx hb hts in_X7_about_X7 hown hK hP 0 (wC_0 _ _ _ _ _) rfl 4 (by decide) (hts (.fieldLink RX7 46 "CallGraphs" "graph" "LCallGraphs$Graph;") (List.mem_of_getElem? (i := 2) rfl)) (fun _ h9 => h9) (fC_0_4 _ _) dX7_about_27 ?_
        obtain ⟨r_30, hg_30, hf⟩ := oc_e hf
        refine mV_wv (wd := wC ad cI cJ cZ) (σ := σ) (As := []) (rest := []) ⟨hx, hb, hml, hown, hts⟩ hK hP hD hS (c_X3_refresh l D ad cI cJ cZ σ hg_30) (cwV 0 hts gX7_about_X3_refresh rfl rfl rfl hd_X3_refresh ⟨Nat.le_trans (Nat.le_of_ble_eq_true rfl) hR.1, Nat.le_trans (Nat.le_of_ble_eq_true rfl) hR.2⟩) rfl (wC_5 _ _ _ _ _) rfl hl.1 rfl (Nat.le_of_ble_eq_true rfl) dX7_about_30 (fun H locs hP hS => ?_)
        refine lv_iload_n hx hb dX7_about_33 rfl (lv_at hl 2 rfl) ?_
        by_cases c_34_0 : v2 = 0
        · rw [if_pos c_34_0] at hf
          refine lv_tableIn (off := 30) (tgt := 64) hx hb dX7_about_34 (by rw [c_34_0]; decide) (by rw [c_34_0]; decide) (by rw [c_34_0]; rfl) (by decide) ?_
          refine lv_aload_n hx hb dX7_about_64 rfl (lv_at hl 0 rfl) ?_
          refine va_get (D := D) (ci := 6) (v := .ref (ad 5)) (C := RX7) (T := TX7) (N := 6) hx hb hts in_X7_about_X7 hown hK hP 0 (wC_0 _ _ _ _ _) rfl 4 (by decide) (hts (.fieldLink RX7 46 "CallGraphs" "graph" "LCallGraphs$Graph;") (List.mem_of_getElem? (i := 2) rfl)) (fun _ h9 => h9) (fC_0_4 _ _) dX7_about_65 ?_
          obtain ⟨r_68, hg_68, hf⟩ := oc_e hf
          refine mV_rl (wd := wC ad cI cJ cZ) (σ := r_30) (As := []) (rest := []) ⟨hx, hb, hml, hown, hts⟩ hK hP hD hS (c_X3_reached l D ad cI cJ cZ r_30 hg_68) (cwV 0 hts gX7_about_X3_reached rfl rfl rfl hd_X3_reached ⟨Nat.le_trans (Nat.le_of_ble_eq_true rfl) hR.1, Nat.le_trans (Nat.le_of_ble_eq_true rfl) hR.2⟩) rfl (wC_5 _ _ _ _ _) rfl hl.1 rfl (Nat.le_of_ble_eq_true rfl) dX7_about_68 (fun H locs hP hS => ?_)
          refine lv_iload_n hx hb dX7_about_71 rfl (lv_at hl 1 rfl) ?_
          obtain ⟨r_72, hg_72, hf⟩ := oc_e hf
          refine mS_i (D := D) (As := [.long r_68, .int v1]) (rest := []) ⟨hx, hb, hml, hown, hts⟩ hP hS (c_X0_has l r_68 v1 hg_72) (va_cwS 2 hts gX7_about_X0_has rfl rfl rfl hd_X0_has ⟨Nat.le_trans (Nat.le_of_ble_eq_true rfl) hR.1, Nat.le_trans (Nat.le_of_ble_eq_true rfl) hR.2⟩) rfl hl.1 rfl (Nat.le_of_ble_eq_true rfl) dX7_about_72 (fun H locs hP hS => ?_)
          refine lv_if_eq (tgt := 82) hx hb dX7_about_75 (by decide) (fun c_75 => ?_) (fun c_75 => ?_)
          · rw [if_pos c_75] at hf
            refine lv_iconst (v := 0) hx hb dX7_about_82 (by decide) ?_
            exact w_X7_about_83 hm hR hK hD 0 r_30 hf _ _ _ hP hS (lv_sub hl [] rfl)
          · rw [if_neg c_75] at hf
            refine lv_iconst (v := 1) hx hb dX7_about_78 (by decide) ?_
            refine lv_goto (tgt := 83) hx hb dX7_about_79 (by decide) ?_
            exact w_X7_about_83 hm hR hK hD 1 r_30 hf _ _ _ hP hS (lv_sub hl [] rfl)
        rw [if_neg c_34_0] at hf
        by_cases c_34_1 : v2 = 1
        · rw [if_pos c_34_1] at hf
          refine lv_tableIn (off := 50) (tgt := 84) hx hb dX7_about_34 (by rw [c_34_1]; decide) (by rw [c_34_1]; decide) (by rw [c_34_1]; rfl) (by decide) ?_
          refine lv_aload_n hx hb dX7_about_84 rfl (lv_at hl 0 rfl) ?_
          refine va_get (D := D) (ci := 6) (v := .ref (ad 5)) (C := RX7) (T := TX7) (N := 6) hx hb hts in_X7_about_X7 hown hK hP 0 (wC_0 _ _ _ _ _) rfl 4 (by decide) (hts (.fieldLink RX7 46 "CallGraphs" "graph" "LCallGraphs$Graph;") (List.mem_of_getElem? (i := 2) rfl)) (fun _ h9 => h9) (fC_0_4 _ _) dX7_about_85 ?_
          refine lv_iload_n hx hb dX7_about_88 rfl (lv_at hl 1 rfl) ?_
          obtain ⟨r_89, hg_89, hf⟩ := oc_e hf
          refine mV_ri (wd := wC ad cI cJ cZ) (σ := r_30) (As := [.int v1]) (rest := []) ⟨hx, hb, hml, hown, hts⟩ hK hP hD hS (c_X3_isRecursive l D ad cI cJ cZ r_30 v1 hg_89) (cwV 1 hts gX7_about_X3_isRecursive rfl rfl rfl hd_X3_isRecursive ⟨Nat.le_trans (Nat.le_of_ble_eq_true rfl) hR.1, Nat.le_trans (Nat.le_of_ble_eq_true rfl) hR.2⟩) rfl (wC_5 _ _ _ _ _) rfl hl.1 rfl (Nat.le_of_ble_eq_true rfl) dX7_about_89 (fun H locs hP hS => ?_)
          refine lv_if_eq (tgt := 99) hx hb dX7_about_92 (by decide) (fun c_92 => ?_) (fun c_92 => ?_)
          · rw [if_pos c_92] at hf
            refine lv_iconst (v := 0) hx hb dX7_about_99 (by decide) ?_
            exact w_X7_about_100 hm hR hK hD 0 r_30 hf _ _ _ hP hS (lv_sub hl [] rfl)
          · rw [if_neg c_92] at hf
            refine lv_iconst (v := 1) hx hb dX7_about_95 (by decide) ?_
            refine lv_goto (tgt := 100) hx hb dX7_about_96 (by decide) ?_
            exact w_X7_about_100 hm hR hK hD 1 r_30 hf _ _ _ hP hS (lv_sub hl [] rfl)
        rw [if_neg c_34_1] at hf
        by_cases c_34_2 : v2 = 2
        · rw [if_pos c_34_2] at hf
          refine lv_tableIn (off := 67) (tgt := 101) hx hb dX7_about_34 (by rw [c_34_2]; decide) (by rw [c_34_2]; decide) (by rw [c_34_2]; rfl) (by decide) ?_
          refine lv_aload_n hx hb dX7_about_101 rfl (lv_at hl 0 rfl) ?_
          refine va_get (D := D) (ci := 6) (v := .ref (ad 5)) (C := RX7) (T := TX7) (N := 6) hx hb hts in_X7_about_X7 hown hK hP 0 (wC_0 _ _ _ _ _) rfl 4 (by decide) (hts (.fieldLink RX7 46 "CallGraphs" "graph" "LCallGraphs$Graph;") (List.mem_of_getElem? (i := 2) rfl)) (fun _ h9 => h9) (fC_0_4 _ _) dX7_about_102 ?_
          refine lv_iload_n hx hb dX7_about_105 rfl (lv_at hl 1 rfl) ?_
          obtain ⟨r_106, hg_106, hf⟩ := oc_e hf
          refine mV_rl (wd := wC ad cI cJ cZ) (σ := r_30) (As := [.int v1]) (rest := []) ⟨hx, hb, hml, hown, hts⟩ hK hP hD hS (c_X3_callersOf l D ad cI cJ cZ r_30 v1 hg_106) (cwV 1 hts gX7_about_X3_callersOf rfl rfl rfl hd_X3_callersOf ⟨Nat.le_trans (Nat.le_of_ble_eq_true rfl) hR.1, Nat.le_trans (Nat.le_of_ble_eq_true rfl) hR.2⟩) rfl (wC_5 _ _ _ _ _) rfl hl.1 rfl (Nat.le_of_ble_eq_true rfl) dX7_about_106 (fun H locs hP hS => ?_)
          obtain ⟨r_109, hg_109, hf⟩ := oc_e hf
          refine mS_i (D := D) (As := [.long r_106]) (rest := []) ⟨hx, hb, hml, hown, hts⟩ hP hS (c_J13_bitCount_95d88 l r_106 hg_109) (va_cwS 1 hts gX7_about_J13_bitCount_95d88 rfl rfl rfl hd_J13_bitCount_95d88 ⟨Nat.le_trans (Nat.le_of_ble_eq_true rfl) hR.1, Nat.le_trans (Nat.le_of_ble_eq_true rfl) hR.2⟩) rfl hl.1 rfl (Nat.le_of_ble_eq_true rfl) dX7_about_109 (fun H locs hP hS => ?_)
          exact rt_i (wd := wC ad cI cJ cZ) hx hb hr hlk (Option.some.inj hf) hP hS dX7_about_112
        rw [if_neg c_34_2] at hf
        by_cases c_34_3 : v2 = 3
        · rw [if_pos c_34_3] at hf
          refine lv_tableIn (off := 79) (tgt := 113) hx hb dX7_about_34 (by rw [c_34_3]; decide) (by rw [c_34_3]; decide) (by rw [c_34_3]; rfl) (by decide) ?_
          refine lv_aload_n hx hb dX7_about_113 rfl (lv_at hl 0 rfl) ?_
          refine va_get (D := D) (ci := 6) (v := .ref (ad 5)) (C := RX7) (T := TX7) (N := 6) hx hb hts in_X7_about_X7 hown hK hP 0 (wC_0 _ _ _ _ _) rfl 4 (by decide) (hts (.fieldLink RX7 46 "CallGraphs" "graph" "LCallGraphs$Graph;") (List.mem_of_getElem? (i := 2) rfl)) (fun _ h9 => h9) (fC_0_4 _ _) dX7_about_114 ?_
          refine lv_iload_n hx hb dX7_about_117 rfl (lv_at hl 1 rfl) ?_
          obtain ⟨r_118, hg_118, hf⟩ := oc_e hf
          refine mV_rl (wd := wC ad cI cJ cZ) (σ := r_30) (As := [.int v1]) (rest := []) ⟨hx, hb, hml, hown, hts⟩ hK hP hD hS (c_X3_ringOf l D ad cI cJ cZ r_30 v1 hg_118) (cwV 1 hts gX7_about_X3_ringOf rfl rfl rfl hd_X3_ringOf ⟨Nat.le_trans (Nat.le_of_ble_eq_true rfl) hR.1, Nat.le_trans (Nat.le_of_ble_eq_true rfl) hR.2⟩) rfl (wC_5 _ _ _ _ _) rfl hl.1 rfl (Nat.le_of_ble_eq_true rfl) dX7_about_118 (fun H locs hP hS => ?_)
          obtain ⟨r_121, hg_121, hf⟩ := oc_e hf
          refine mS_i (D := D) (As := [.long r_118]) (rest := []) ⟨hx, hb, hml, hown, hts⟩ hP hS (c_J13_bitCount_95d88 l r_118 hg_121) (va_cwS 1 hts gX7_about_J13_bitCount_95d88 rfl rfl rfl hd_J13_bitCount_95d88 ⟨Nat.le_trans (Nat.le_of_ble_eq_true rfl) hR.1, Nat.le_trans (Nat.le_of_ble_eq_true rfl) hR.2⟩) rfl hl.1 rfl (Nat.le_of_ble_eq_true rfl) dX7_about_121 (fun H locs hP hS => ?_)
          exact rt_i (wd := wC ad cI cJ cZ) hx hb hr hlk (Option.some.inj hf) hP hS dX7_about_124
        rw [if_neg c_34_3] at hf
        refine lv_tableOut (tgt := 125) hx hb dX7_about_34 (by have g0 := lv_neT c_34_0 (a := 0) (by decide); have g1 := lv_neT c_34_1 (a := 1) (by decide); have g2 := lv_neT c_34_2 (a := 2) (by decide); have g3 := lv_neT c_34_3 (a := 3) (by decide); omega) (by decide) ?_
        refine lv_aload_n hx hb dX7_about_125 rfl (lv_at hl 0 rfl) ?_
        refine va_get (D := D) (ci := 6) (v := .ref (ad 5)) (C := RX7) (T := TX7) (N := 6) hx hb hts in_X7_about_X7 hown hK hP 0 (wC_0 _ _ _ _ _) rfl 4 (by decide) (hts (.fieldLink RX7 46 "CallGraphs" "graph" "LCallGraphs$Graph;") (List.mem_of_getElem? (i := 2) rfl)) (fun _ h9 => h9) (fC_0_4 _ _) dX7_about_126 ?_
        refine lv_iload_n hx hb dX7_about_129 rfl (lv_at hl 1 rfl) ?_
        obtain ⟨r_130, hg_130, hf⟩ := oc_e hf
        refine mV_rl (wd := wC ad cI cJ cZ) (σ := r_30) (As := [.int v1]) (rest := []) ⟨hx, hb, hml, hown, hts⟩ hK hP hD hS (c_X3_ringOf l D ad cI cJ cZ r_30 v1 hg_130) (cwV 1 hts gX7_about_X3_ringOf rfl rfl rfl hd_X3_ringOf ⟨Nat.le_trans (Nat.le_of_ble_eq_true rfl) hR.1, Nat.le_trans (Nat.le_of_ble_eq_true rfl) hR.2⟩) rfl (wC_5 _ _ _ _ _) rfl hl.1 rfl (Nat.le_of_ble_eq_true rfl) dX7_about_130 (fun H locs hP hS => ?_)
        obtain ⟨r_133, hg_133, hf⟩ := oc_e hf
        refine mS_i (D := D) (As := [.long r_130]) (rest := []) ⟨hx, hb, hml, hown, hts⟩ hP hS (c_X0_least l r_130 hg_133) (va_cwS 1 hts gX7_about_X0_least rfl rfl rfl hd_X0_least ⟨Nat.le_trans (Nat.le_of_ble_eq_true rfl) hR.1, Nat.le_trans (Nat.le_of_ble_eq_true rfl) hR.2⟩) rfl hl.1 rfl (Nat.le_of_ble_eq_true rfl) dX7_about_133 (fun H locs hP hS => ?_)
        exact rt_i (wd := wC ad cI cJ cZ) hx hb hr hlk (Option.some.inj hf) hP hS dX7_about_136
      · rw [if_neg c_20] at hf
        exact w_X7_about_23 hm hR hK hD σ hf _ _ _ hP hS (lv_sub hl [] rfl)
  · rw [if_pos c_8] at hf
    refine lv_bipush (v := (-101)) hx hb dX7_about_11 (by decide) ?_
    exact rt_i (wd := wC ad cI cJ cZ) hx hb hr hlk (Option.some.inj hf) hP hS dX7_about_13
theorem hd_X7_about : yX7_about.cls = RX7 ∧ yX7_about.cls ≠ "java/lang/invoke/MethodHandle" ∧ yX7_about.cls ≠ "java/lang/invoke/VarHandle" ∧ (parseMethodDescriptor yX7_about.desc).map (fun d => d.parameters.length) = some 2 := by decide +kernel
set_option maxHeartbeats 4000000 in
set_option maxRecDepth 100000 in
theorem c_X7_about (l : Launch) (D : va_G) (ad : Nat → Nat) (cI cJ cZ : ClassId) (σ : SS) (v1 : Int32) (v2 : Int32) {res : Int32 × SS} (hf : p_X7_about_0 v1 v2 σ = some res) : Met l yX7_about wsX7_about ({ frames := 7, cells := 0, slots := 0, locals := 158 } : Room) (PW D (tyw cI cJ cZ) (wC ad cI cJ cZ σ) [.ref (ad 0), .int v1, .int v2]) (va_Qi (fun (r : Int32) (u : SS) => (r, u) = res) (fun u t => va_P D vwCl (wC ad cI cJ cZ u) t.heap) (aC ad)) 0 0 (aC ad) := by
  refine Met.ofW (cc := cX7_about) (maxL := 3) (ret := (some .int)) (by decide) rfl ?_
  intro p e s m args below meth c s₁ B hml hv
  obtain ⟨rfl, hP, hK, hD0⟩ := hv
  have hD : ∀ σ, va_D (aC ad) (wC ad cI cJ cZ σ) := fun σ => wd_D hD0 (wC_map _ _ _ _ _) (wC_map _ _ _ _ _)
  have hm : mx p s m _ meth c cX7_about 3 (some .int) wsX7_about RX7 := ⟨B.exec, B.bytes, B.returns, hml, findClass_of_methodNamed B.named, atoms_spec (ws := wsX7_about) B.pre, B.notSynchronized⟩
  have hl := lv_entry ([.ref (ad 0), .int v1, .int v2]) (n := 3) (Nat.le_of_ble_eq_true rfl)
  rw [lg_entry_eq]
  generalize (lg_sl ([.ref (ad 0), .int v1, .int v2]) ++ List.replicate (3 - (lg_sl ([.ref (ad 0), .int v1, .int v2])).length) Slot.unset).toArray = ls at hl ⊢
  exact w_X7_about_0 hm ⟨Nat.le_refl _, Nat.le_refl _⟩ hK hD v1 v2 σ hf _ _ _ hP va_S.rf hl
/-! CallGraphs.made(II)I -/
theorem in_X7_made_X7 : ∀ w ∈ u_ws RX7 TX7 6, w ∈ wsX7_made := fun w h => List.mem_cons_of_mem _ (List.mem_append_left _ (List.mem_append_left _ (List.mem_append_left _ (List.mem_append_left _ (List.mem_append_left _ (List.mem_append_right _ h))))))
def p_X7_made_23 (σ : SS) : Option (Int32 × SS) := some ((-102), σ)
set_option maxHeartbeats 4000000 in
set_option maxRecDepth 100000 in
theorem w_X7_made_23 {p : Program} {l : Launch} {e : Env} {R : Room} {s : State} {m : MethodId} {args : Array Value} {below : List Frame} {meth : Method} {c : Code} {D : va_G} {ad : Nat → Nat} {cI cJ cZ : ClassId} {res : Int32 × SS} (hm : mx p s m args meth c cX7_made 3 (some .int) wsX7_made RX7) (hR : 7 ≤ R.frames ∧ 158 ≤ R.locals) (hK : va_K D vwCl (tyw cI cJ cZ) s) (hD : ∀ σ, va_D (aC ad) (wC ad cI cJ cZ σ)) (σ : SS) (hf : p_X7_made_23 σ = some res) (H : Heap) (locs : List Loc) (ls : Array Slot) (hP : va_P D vwCl (wC ad cI cJ cZ σ) H) (hS : va_S (aC ad) s.heap H locs) (hl : lv_has ls 3 []) : W p l e R s m args below meth c H locs 0 0 (MQ below (va_Qi (fun (r : Int32) (u : SS) => (r, u) = res) (fun u t => va_P D vwCl (wC ad cI cJ cZ u) t.heap) (aC ad)) args s 0 0 (aC ad)) (F0 m 23 ls []) := by
  obtain ⟨hx, hb, hr, hml, hown, hts, hlk⟩ := id hm
  unfold p_X7_made_23 at hf
  refine lv_bipush (v := (-102)) hx hb dX7_made_23 (by decide) ?_
  exact rt_i (wd := wC ad cI cJ cZ) hx hb hr hlk (Option.some.inj hf) hP hS dX7_made_25
def p_X7_made_66 (t0 : Int32) (σ : SS) : Option (Int32 × SS) := some (t0, σ)
set_option maxHeartbeats 4000000 in
set_option maxRecDepth 100000 in
theorem w_X7_made_66 {p : Program} {l : Launch} {e : Env} {R : Room} {s : State} {m : MethodId} {args : Array Value} {below : List Frame} {meth : Method} {c : Code} {D : va_G} {ad : Nat → Nat} {cI cJ cZ : ClassId} {res : Int32 × SS} (hm : mx p s m args meth c cX7_made 3 (some .int) wsX7_made RX7) (hR : 7 ≤ R.frames ∧ 158 ≤ R.locals) (hK : va_K D vwCl (tyw cI cJ cZ) s) (hD : ∀ σ, va_D (aC ad) (wC ad cI cJ cZ σ)) (t0 : Int32) (σ : SS) (hf : p_X7_made_66 t0 σ = some res) (H : Heap) (locs : List Loc) (ls : Array Slot) (hP : va_P D vwCl (wC ad cI cJ cZ σ) H) (hS : va_S (aC ad) s.heap H locs) (hl : lv_has ls 3 []) : W p l e R s m args below meth c H locs 0 0 (MQ below (va_Qi (fun (r : Int32) (u : SS) => (r, u) = res) (fun u t => va_P D vwCl (wC ad cI cJ cZ u) t.heap) (aC ad)) args s 0 0 (aC ad)) (F0 m 66 ls [.int t0]) := by
  obtain ⟨hx, hb, hr, hml, hown, hts, hlk⟩ := id hm
  unfold p_X7_made_66 at hf
  exact rt_i (wd := wC ad cI cJ cZ) hx hb hr hlk (Option.some.inj hf) hP hS dX7_made_66
def p_X7_made_54 (v1 : Int32) (t0 : Int64) (σ : SS) : Option (Int32 × SS) := oc (p_X0_has_0 t0 v1) (fun r_55 => if r_55 = 0 then p_X7_made_66 0 σ else p_X7_made_66 1 σ)
set_option maxHeartbeats 4000000 in
set_option maxRecDepth 100000 in
theorem w_X7_made_54 {p : Program} {l : Launch} {e : Env} {R : Room} {s : State} {m : MethodId} {args : Array Value} {below : List Frame} {meth : Method} {c : Code} {D : va_G} {ad : Nat → Nat} {cI cJ cZ : ClassId} {res : Int32 × SS} (hm : mx p s m args meth c cX7_made 3 (some .int) wsX7_made RX7) (hR : 7 ≤ R.frames ∧ 158 ≤ R.locals) (hK : va_K D vwCl (tyw cI cJ cZ) s) (hD : ∀ σ, va_D (aC ad) (wC ad cI cJ cZ σ)) (v1 : Int32) (t0 : Int64) (σ : SS) (hf : p_X7_made_54 v1 t0 σ = some res) (H : Heap) (locs : List Loc) (ls : Array Slot) (hP : va_P D vwCl (wC ad cI cJ cZ σ) H) (hS : va_S (aC ad) s.heap H locs) (hl : lv_has ls 3 [(1, .int v1)]) : W p l e R s m args below meth c H locs 0 0 (MQ below (va_Qi (fun (r : Int32) (u : SS) => (r, u) = res) (fun u t => va_P D vwCl (wC ad cI cJ cZ u) t.heap) (aC ad)) args s 0 0 (aC ad)) (F0 m 54 ls [.long t0]) := by
  obtain ⟨hx, hb, hr, hml, hown, hts, hlk⟩ := id hm
  unfold p_X7_made_54 at hf
  refine lv_iload_n hx hb dX7_made_54 rfl (lv_at hl 0 rfl) ?_
  obtain ⟨r_55, hg_55, hf⟩ := oc_e hf
  refine mS_i (D := D) (As := [.long t0, .int v1]) (rest := []) ⟨hx, hb, hml, hown, hts⟩ hP hS (c_X0_has l t0 v1 hg_55) (va_cwS 2 hts gX7_made_X0_has rfl rfl rfl hd_X0_has ⟨Nat.le_trans (Nat.le_of_ble_eq_true rfl) hR.1, Nat.le_trans (Nat.le_of_ble_eq_true rfl) hR.2⟩) rfl hl.1 rfl (Nat.le_of_ble_eq_true rfl) dX7_made_55 (fun H locs hP hS => ?_)
  refine lv_if_eq (tgt := 65) hx hb dX7_made_58 (by decide) (fun c_58 => ?_) (fun c_58 => ?_)
  · rw [if_pos c_58] at hf
    refine lv_iconst (v := 0) hx hb dX7_made_65 (by decide) ?_
    exact w_X7_made_66 hm hR hK hD 0 σ hf _ _ _ hP hS (lv_sub hl [] rfl)
  · rw [if_neg c_58] at hf
    refine lv_iconst (v := 1) hx hb dX7_made_61 (by decide) ?_
    refine lv_goto (tgt := 66) hx hb dX7_made_62 (by decide) ?_
    exact w_X7_made_66 hm hR hK hD 1 σ hf _ _ _ hP hS (lv_sub hl [] rfl)
def p_X7_made_0 (v1 : Int32) (v2 : Int32) (σ : SS) : Option (Int32 × SS) := oc (p_X6_knows_0 σ v1) (fun r_5 => if r_5 = 0 then some ((-101), σ) else if v2 < 0 then p_X7_made_23 σ else if v2 ≤ 1 then oc (p_X3_refresh_0 σ) (fun r_30 => if v2 = 0 then oc (p_X3_madeClasses_0 r_30) (fun r_41 => p_X7_made_54 v1 r_41 r_30) else oc (p_X3_begunTypes_0 r_30) (fun r_51 => p_X7_made_54 v1 r_51 r_30)) else p_X7_made_23 σ)
set_option maxHeartbeats 4000000 in
set_option maxRecDepth 100000 in
theorem w_X7_made_0 {p : Program} {l : Launch} {e : Env} {R : Room} {s : State} {m : MethodId} {args : Array Value} {below : List Frame} {meth : Method} {c : Code} {D : va_G} {ad : Nat → Nat} {cI cJ cZ : ClassId} {res : Int32 × SS} (hm : mx p s m args meth c cX7_made 3 (some .int) wsX7_made RX7) (hR : 7 ≤ R.frames ∧ 158 ≤ R.locals) (hK : va_K D vwCl (tyw cI cJ cZ) s) (hD : ∀ σ, va_D (aC ad) (wC ad cI cJ cZ σ)) (v1 : Int32) (v2 : Int32) (σ : SS) (hf : p_X7_made_0 v1 v2 σ = some res) (H : Heap) (locs : List Loc) (ls : Array Slot) (hP : va_P D vwCl (wC ad cI cJ cZ σ) H) (hS : va_S (aC ad) s.heap H locs) (hl : lv_has ls 3 [(0, .ref (ad 0)), (1, .int v1), (2, .int v2)]) : W p l e R s m args below meth c H locs 0 0 (MQ below (va_Qi (fun (r : Int32) (u : SS) => (r, u) = res) (fun u t => va_P D vwCl (wC ad cI cJ cZ u) t.heap) (aC ad)) args s 0 0 (aC ad)) (F0 m 0 ls []) := by
  obtain ⟨hx, hb, hr, hml, hown, hts, hlk⟩ := id hm
  unfold p_X7_made_0 at hf
  refine lv_aload_n hx hb dX7_made_0 rfl (lv_at hl 0 rfl) ?_
  refine va_get (D := D) (ci := 6) (v := .ref (ad 1)) (C := RX7) (T := TX7) (N := 6) hx hb hts in_X7_made_X7 hown hK hP 0 (wC_0 _ _ _ _ _) rfl 0 (by decide) (hts (.fieldLink RX7 10 "CallGraphs" "types" "LCallGraphs$Types;") (List.mem_of_getElem? (i := 1) rfl)) (fun _ h9 => h9) (fC_0_0 _ _) dX7_made_1 ?_
  refine lv_iload_n hx hb dX7_made_4 rfl (lv_at hl 1 rfl) ?_
  obtain ⟨r_5, hg_5, hf⟩ := oc_e hf
  refine mV_ri (wd := wC ad cI cJ cZ) (σ := σ) (As := [.int v1]) (rest := []) ⟨hx, hb, hml, hown, hts⟩ hK hP hD hS (c_X6_knows l D ad cI cJ cZ σ v1 hg_5) (cwV 1 hts gX7_made_X6_knows rfl rfl rfl hd_X6_knows ⟨Nat.le_trans (Nat.le_of_ble_eq_true rfl) hR.1, Nat.le_trans (Nat.le_of_ble_eq_true rfl) hR.2⟩) rfl (wC_1 _ _ _ _ _) rfl hl.1 rfl (Nat.le_of_ble_eq_true rfl) dX7_made_5 (fun H locs hP hS => ?_)
  refine lv_if_ne (tgt := 14) hx hb dX7_made_8 (by decide) (fun c_8 => ?_) (fun c_8 => ?_)
  · rw [if_neg c_8] at hf
    refine lv_iload_n hx hb dX7_made_14 rfl (lv_at hl 2 rfl) ?_
    refine lv_if_lt (tgt := 23) hx hb dX7_made_15 (by decide) (fun c_15 => ?_) (fun c_15 => ?_)
    · rw [if_pos c_15] at hf
      exact w_X7_made_23 hm hR hK hD σ hf _ _ _ hP hS (lv_sub hl [] rfl)
    · rw [if_neg c_15] at hf
      refine lv_iload_n hx hb dX7_made_18 rfl (lv_at hl 2 rfl) ?_
      refine lv_iconst (v := 1) hx hb dX7_made_19 (by decide) ?_
      refine lv_icmp_le (tgt := 26) hx hb dX7_made_20 (by decide) (fun c_20 => ?_) (fun c_20 => ?_)
      · rw [if_pos c_20] at hf
        refine lv_aload_n hx hb dX7_made_26 rfl (lv_at hl 0 rfl) ?_
        refine va_get (D := D) (ci := 6) (v := .ref (ad 5)) (C := RX7) (T := TX7) (N := 6) hx hb hts in_X7_made_X7 hown hK hP 0 (wC_0 _ _ _ _ _) rfl 4 (by decide) (hts (.fieldLink RX7 46 "CallGraphs" "graph" "LCallGraphs$Graph;") (List.mem_of_getElem? (i := 2) rfl)) (fun _ h9 => h9) (fC_0_4 _ _) dX7_made_27 ?_
        obtain ⟨r_30, hg_30, hf⟩ := oc_e hf
        refine mV_wv (wd := wC ad cI cJ cZ) (σ := σ) (As := []) (rest := []) ⟨hx, hb, hml, hown, hts⟩ hK hP hD hS (c_X3_refresh l D ad cI cJ cZ σ hg_30) (cwV 0 hts gX7_made_X3_refresh rfl rfl rfl hd_X3_refresh ⟨Nat.le_trans (Nat.le_of_ble_eq_true rfl) hR.1, Nat.le_trans (Nat.le_of_ble_eq_true rfl) hR.2⟩) rfl (wC_5 _ _ _ _ _) rfl hl.1 rfl (Nat.le_of_ble_eq_true rfl) dX7_made_30 (fun H locs hP hS => ?_)
        refine lv_iload_n hx hb dX7_made_33 rfl (lv_at hl 2 rfl) ?_
        refine lv_if_ne (tgt := 47) hx hb dX7_made_34 (by decide) (fun c_34 => ?_) (fun c_34 => ?_)
        · rw [if_neg c_34] at hf
          refine lv_aload_n hx hb dX7_made_47 rfl (lv_at hl 0 rfl) ?_
          refine va_get (D := D) (ci := 6) (v := .ref (ad 5)) (C := RX7) (T := TX7) (N := 6) hx hb hts in_X7_made_X7 hown hK hP 0 (wC_0 _ _ _ _ _) rfl 4 (by decide) (hts (.fieldLink RX7 46 "CallGraphs" "graph" "LCallGraphs$Graph;") (List.mem_of_getElem? (i := 2) rfl)) (fun _ h9 => h9) (fC_0_4 _ _) dX7_made_48 ?_
          obtain ⟨r_51, hg_51, hf⟩ := oc_e hf
          refine mV_rl (wd := wC ad cI cJ cZ) (σ := r_30) (As := []) (rest := []) ⟨hx, hb, hml, hown, hts⟩ hK hP hD hS (c_X3_begunTypes l D ad cI cJ cZ r_30 hg_51) (cwV 0 hts gX7_made_X3_begunTypes rfl rfl rfl hd_X3_begunTypes ⟨Nat.le_trans (Nat.le_of_ble_eq_true rfl) hR.1, Nat.le_trans (Nat.le_of_ble_eq_true rfl) hR.2⟩) rfl (wC_5 _ _ _ _ _) rfl hl.1 rfl (Nat.le_of_ble_eq_true rfl) dX7_made_51 (fun H locs hP hS => ?_)
          exact w_X7_made_54 hm hR hK hD v1 r_51 r_30 hf _ _ _ hP hS (lv_sub hl [1] rfl)
        · rw [if_pos c_34] at hf
          refine lv_aload_n hx hb dX7_made_37 rfl (lv_at hl 0 rfl) ?_
          refine va_get (D := D) (ci := 6) (v := .ref (ad 5)) (C := RX7) (T := TX7) (N := 6) hx hb hts in_X7_made_X7 hown hK hP 0 (wC_0 _ _ _ _ _) rfl 4 (by decide) (hts (.fieldLink RX7 46 "CallGraphs" "graph" "LCallGraphs$Graph;") (List.mem_of_getElem? (i := 2) rfl)) (fun _ h9 => h9) (fC_0_4 _ _) dX7_made_38 ?_
          obtain ⟨r_41, hg_41, hf⟩ := oc_e hf
          refine mV_rl (wd := wC ad cI cJ cZ) (σ := r_30) (As := []) (rest := []) ⟨hx, hb, hml, hown, hts⟩ hK hP hD hS (c_X3_madeClasses l D ad cI cJ cZ r_30 hg_41) (cwV 0 hts gX7_made_X3_madeClasses rfl rfl rfl hd_X3_madeClasses ⟨Nat.le_trans (Nat.le_of_ble_eq_true rfl) hR.1, Nat.le_trans (Nat.le_of_ble_eq_true rfl) hR.2⟩) rfl (wC_5 _ _ _ _ _) rfl hl.1 rfl (Nat.le_of_ble_eq_true rfl) dX7_made_41 (fun H locs hP hS => ?_)
          refine lv_goto (tgt := 54) hx hb dX7_made_44 (by decide) ?_
          exact w_X7_made_54 hm hR hK hD v1 r_41 r_30 hf _ _ _ hP hS (lv_sub hl [1] rfl)
      · rw [if_neg c_20] at hf
        exact w_X7_made_23 hm hR hK hD σ hf _ _ _ hP hS (lv_sub hl [] rfl)
  · rw [if_pos c_8] at hf
    refine lv_bipush (v := (-101)) hx hb dX7_made_11 (by decide) ?_
    exact rt_i (wd := wC ad cI cJ cZ) hx hb hr hlk (Option.some.inj hf) hP hS dX7_made_13
theorem hd_X7_made : yX7_made.cls = RX7 ∧ yX7_made.cls ≠ "java/lang/invoke/MethodHandle" ∧ yX7_made.cls ≠ "java/lang/invoke/VarHandle" ∧ (parseMethodDescriptor yX7_made.desc).map (fun d => d.parameters.length) = some 2 := by decide +kernel
set_option maxHeartbeats 4000000 in
set_option maxRecDepth 100000 in
theorem c_X7_made (l : Launch) (D : va_G) (ad : Nat → Nat) (cI cJ cZ : ClassId) (σ : SS) (v1 : Int32) (v2 : Int32) {res : Int32 × SS} (hf : p_X7_made_0 v1 v2 σ = some res) : Met l yX7_made wsX7_made ({ frames := 7, cells := 0, slots := 0, locals := 158 } : Room) (PW D (tyw cI cJ cZ) (wC ad cI cJ cZ σ) [.ref (ad 0), .int v1, .int v2]) (va_Qi (fun (r : Int32) (u : SS) => (r, u) = res) (fun u t => va_P D vwCl (wC ad cI cJ cZ u) t.heap) (aC ad)) 0 0 (aC ad) := by
  refine Met.ofW (cc := cX7_made) (maxL := 3) (ret := (some .int)) (by decide) rfl ?_
  intro p e s m args below meth c s₁ B hml hv
  obtain ⟨rfl, hP, hK, hD0⟩ := hv
  have hD : ∀ σ, va_D (aC ad) (wC ad cI cJ cZ σ) := fun σ => wd_D hD0 (wC_map _ _ _ _ _) (wC_map _ _ _ _ _)
  have hm : mx p s m _ meth c cX7_made 3 (some .int) wsX7_made RX7 := ⟨B.exec, B.bytes, B.returns, hml, findClass_of_methodNamed B.named, atoms_spec (ws := wsX7_made) B.pre, B.notSynchronized⟩
  have hl := lv_entry ([.ref (ad 0), .int v1, .int v2]) (n := 3) (Nat.le_of_ble_eq_true rfl)
  rw [lg_entry_eq]
  generalize (lg_sl ([.ref (ad 0), .int v1, .int v2]) ++ List.replicate (3 - (lg_sl ([.ref (ad 0), .int v1, .int v2])).length) Slot.unset).toArray = ls at hl ⊢
  exact w_X7_made_0 hm ⟨Nat.le_refl _, Nat.le_refl _⟩ hK hD v1 v2 σ hf _ _ _ hP va_S.rf hl
/-! CallGraphs.callee(III)I -/
theorem in_X7_callee_X7 : ∀ w ∈ u_ws RX7 TX7 6, w ∈ wsX7_callee := fun w h => List.mem_cons_of_mem _ (List.mem_append_left _ (List.mem_append_left _ (List.mem_append_left _ (List.mem_append_left _ (List.mem_append_left _ (List.mem_append_right _ h))))))
def p_X7_callee_23 (σ : SS) : Option (Int32 × SS) := some ((-101), σ)
set_option maxHeartbeats 4000000 in
set_option maxRecDepth 100000 in
theorem w_X7_callee_23 {p : Program} {l : Launch} {e : Env} {R : Room} {s : State} {m : MethodId} {args : Array Value} {below : List Frame} {meth : Method} {c : Code} {D : va_G} {ad : Nat → Nat} {cI cJ cZ : ClassId} {res : Int32 × SS} (hm : mx p s m args meth c cX7_callee 4 (some .int) wsX7_callee RX7) (hR : 7 ≤ R.frames ∧ 158 ≤ R.locals) (hK : va_K D vwCl (tyw cI cJ cZ) s) (hD : ∀ σ, va_D (aC ad) (wC ad cI cJ cZ σ)) (σ : SS) (hf : p_X7_callee_23 σ = some res) (H : Heap) (locs : List Loc) (ls : Array Slot) (hP : va_P D vwCl (wC ad cI cJ cZ σ) H) (hS : va_S (aC ad) s.heap H locs) (hl : lv_has ls 4 []) : W p l e R s m args below meth c H locs 0 0 (MQ below (va_Qi (fun (r : Int32) (u : SS) => (r, u) = res) (fun u t => va_P D vwCl (wC ad cI cJ cZ u) t.heap) (aC ad)) args s 0 0 (aC ad)) (F0 m 23 ls []) := by
  obtain ⟨hx, hb, hr, hml, hown, hts, hlk⟩ := id hm
  unfold p_X7_callee_23 at hf
  refine lv_bipush (v := (-101)) hx hb dX7_callee_23 (by decide) ?_
  exact rt_i (wd := wC ad cI cJ cZ) hx hb hr hlk (Option.some.inj hf) hP hS dX7_callee_25
def p_X7_callee_0 (v1 : Int32) (v2 : Int32) (v3 : Int32) (σ : SS) : Option (Int32 × SS) := oc (p_X4_knows_0 σ v1) (fun r_5 => if r_5 = 0 then p_X7_callee_23 σ else oc (p_X5_knows_0 σ v1 v2) (fun r_17 => if r_17 = 0 then p_X7_callee_23 σ else oc (p_X3_refresh_0 σ) (fun r_30 => oc (p_X5_at_0 r_30 v1 v2) (fun r_43 => oc (p_X3_calleesOf_0 r_30 r_43) (fun r_46 => oc (p_X0_nth_0 r_46 v3) (fun r_50 => some (r_50, r_30)))))))
set_option maxHeartbeats 4000000 in
set_option maxRecDepth 100000 in
theorem w_X7_callee_0 {p : Program} {l : Launch} {e : Env} {R : Room} {s : State} {m : MethodId} {args : Array Value} {below : List Frame} {meth : Method} {c : Code} {D : va_G} {ad : Nat → Nat} {cI cJ cZ : ClassId} {res : Int32 × SS} (hm : mx p s m args meth c cX7_callee 4 (some .int) wsX7_callee RX7) (hR : 7 ≤ R.frames ∧ 158 ≤ R.locals) (hK : va_K D vwCl (tyw cI cJ cZ) s) (hD : ∀ σ, va_D (aC ad) (wC ad cI cJ cZ σ)) (v1 : Int32) (v2 : Int32) (v3 : Int32) (σ : SS) (hf : p_X7_callee_0 v1 v2 v3 σ = some res) (H : Heap) (locs : List Loc) (ls : Array Slot) (hP : va_P D vwCl (wC ad cI cJ cZ σ) H) (hS : va_S (aC ad) s.heap H locs) (hl : lv_has ls 4 [(0, .ref (ad 0)), (1, .int v1), (2, .int v2), (3, .int v3)]) : W p l e R s m args below meth c H locs 0 0 (MQ below (va_Qi (fun (r : Int32) (u : SS) => (r, u) = res) (fun u t => va_P D vwCl (wC ad cI cJ cZ u) t.heap) (aC ad)) args s 0 0 (aC ad)) (F0 m 0 ls []) := by
  obtain ⟨hx, hb, hr, hml, hown, hts, hlk⟩ := id hm
  unfold p_X7_callee_0 at hf
  refine lv_aload_n hx hb dX7_callee_0 rfl (lv_at hl 0 rfl) ?_
  refine va_get (D := D) (ci := 6) (v := .ref (ad 2)) (C := RX7) (T := TX7) (N := 6) hx hb hts in_X7_callee_X7 hown hK hP 0 (wC_0 _ _ _ _ _) rfl 1 (by decide) (hts (.fieldLink RX7 21 "CallGraphs" "members" "LCallGraphs$Members;") (List.mem_of_getElem? (i := 1) rfl)) (fun _ h9 => h9) (fC_0_1 _ _) dX7_callee_1 ?_
  refine lv_iload_n hx hb dX7_callee_4 rfl (lv_at hl 1 rfl) ?_
  obtain ⟨r_5, hg_5, hf⟩ := oc_e hf
  refine mV_ri (wd := wC ad cI cJ cZ) (σ := σ) (As := [.int v1]) (rest := []) ⟨hx, hb, hml, hown, hts⟩ hK hP hD hS (c_X4_knows l D ad cI cJ cZ σ v1 hg_5) (cwV 1 hts gX7_callee_X4_knows rfl rfl rfl hd_X4_knows ⟨Nat.le_trans (Nat.le_of_ble_eq_true rfl) hR.1, Nat.le_trans (Nat.le_of_ble_eq_true rfl) hR.2⟩) rfl (wC_2 _ _ _ _ _) rfl hl.1 rfl (Nat.le_of_ble_eq_true rfl) dX7_callee_5 (fun H locs hP hS => ?_)
  refine lv_if_eq (tgt := 23) hx hb dX7_callee_8 (by decide) (fun c_8 => ?_) (fun c_8 => ?_)
  · rw [if_pos c_8] at hf
    exact w_X7_callee_23 hm hR hK hD σ hf _ _ _ hP hS (lv_sub hl [] rfl)
  · rw [if_neg c_8] at hf
    refine lv_aload_n hx hb dX7_callee_11 rfl (lv_at hl 0 rfl) ?_
    refine va_get (D := D) (ci := 6) (v := .ref (ad 4)) (C := RX7) (T := TX7) (N := 6) hx hb hts in_X7_callee_X7 hown hK hP 0 (wC_0 _ _ _ _ _) rfl 3 (by decide) (hts (.fieldLink RX7 37 "CallGraphs" "ops" "LCallGraphs$Ops;") (List.mem_of_getElem? (i := 2) rfl)) (fun _ h9 => h9) (fC_0_3 _ _) dX7_callee_12 ?_
    refine lv_iload_n hx hb dX7_callee_15 rfl (lv_at hl 1 rfl) ?_
    refine lv_iload_n hx hb dX7_callee_16 rfl (lv_at hl 2 rfl) ?_
    obtain ⟨r_17, hg_17, hf⟩ := oc_e hf
    refine mV_ri (wd := wC ad cI cJ cZ) (σ := σ) (As := [.int v1, .int v2]) (rest := []) ⟨hx, hb, hml, hown, hts⟩ hK hP hD hS (c_X5_knows l D ad cI cJ cZ σ v1 v2 hg_17) (cwV 2 hts gX7_callee_X5_knows rfl rfl rfl hd_X5_knows ⟨Nat.le_trans (Nat.le_of_ble_eq_true rfl) hR.1, Nat.le_trans (Nat.le_of_ble_eq_true rfl) hR.2⟩) rfl (wC_4 _ _ _ _ _) rfl hl.1 rfl (Nat.le_of_ble_eq_true rfl) dX7_callee_17 (fun H locs hP hS => ?_)
    refine lv_if_ne (tgt := 26) hx hb dX7_callee_20 (by decide) (fun c_20 => ?_) (fun c_20 => ?_)
    · rw [if_neg c_20] at hf
      refine lv_aload_n hx hb dX7_callee_26 rfl (lv_at hl 0 rfl) ?_
      refine va_get (D := D) (ci := 6) (v := .ref (ad 5)) (C := RX7) (T := TX7) (N := 6) hx hb hts in_X7_callee_X7 hown hK hP 0 (wC_0 _ _ _ _ _) rfl 4 (by decide) (hts (.fieldLink RX7 46 "CallGraphs" "graph" "LCallGraphs$Graph;") (List.mem_of_getElem? (i := 3) rfl)) (fun _ h9 => h9) (fC_0_4 _ _) dX7_callee_27 ?_
      obtain ⟨r_30, hg_30, hf⟩ := oc_e hf
      refine mV_wv (wd := wC ad cI cJ cZ) (σ := σ) (As := []) (rest := []) ⟨hx, hb, hml, hown, hts⟩ hK hP hD hS (c_X3_refresh l D ad cI cJ cZ σ hg_30) (cwV 0 hts gX7_callee_X3_refresh rfl rfl rfl hd_X3_refresh ⟨Nat.le_trans (Nat.le_of_ble_eq_true rfl) hR.1, Nat.le_trans (Nat.le_of_ble_eq_true rfl) hR.2⟩) rfl (wC_5 _ _ _ _ _) rfl hl.1 rfl (Nat.le_of_ble_eq_true rfl) dX7_callee_30 (fun H locs hP hS => ?_)
      refine lv_aload_n hx hb dX7_callee_33 rfl (lv_at hl 0 rfl) ?_
      refine va_get (D := D) (ci := 6) (v := .ref (ad 5)) (C := RX7) (T := TX7) (N := 6) hx hb hts in_X7_callee_X7 hown hK hP 0 (wC_0 _ _ _ _ _) rfl 4 (by decide) (hts (.fieldLink RX7 46 "CallGraphs" "graph" "LCallGraphs$Graph;") (List.mem_of_getElem? (i := 3) rfl)) (fun _ h9 => h9) (fC_0_4 _ _) dX7_callee_34 ?_
      refine lv_aload_n hx hb dX7_callee_37 rfl (lv_at hl 0 rfl) ?_
      refine va_get (D := D) (ci := 6) (v := .ref (ad 4)) (C := RX7) (T := TX7) (N := 6) hx hb hts in_X7_callee_X7 hown hK hP 0 (wC_0 _ _ _ _ _) rfl 3 (by decide) (hts (.fieldLink RX7 37 "CallGraphs" "ops" "LCallGraphs$Ops;") (List.mem_of_getElem? (i := 2) rfl)) (fun _ h9 => h9) (fC_0_3 _ _) dX7_callee_38 ?_
      refine lv_iload_n hx hb dX7_callee_41 rfl (lv_at hl 1 rfl) ?_
      refine lv_iload_n hx hb dX7_callee_42 rfl (lv_at hl 2 rfl) ?_
      obtain ⟨r_43, hg_43, hf⟩ := oc_e hf
      refine mV_ri (wd := wC ad cI cJ cZ) (σ := r_30) (As := [.int v1, .int v2]) (rest := [.ref (ad 5)]) ⟨hx, hb, hml, hown, hts⟩ hK hP hD hS (c_X5_at l D ad cI cJ cZ r_30 v1 v2 hg_43) (cwV 2 hts gX7_callee_X5_at rfl rfl rfl hd_X5_at ⟨Nat.le_trans (Nat.le_of_ble_eq_true rfl) hR.1, Nat.le_trans (Nat.le_of_ble_eq_true rfl) hR.2⟩) rfl (wC_4 _ _ _ _ _) rfl hl.1 rfl (Nat.le_of_ble_eq_true rfl) dX7_callee_43 (fun H locs hP hS => ?_)
      obtain ⟨r_46, hg_46, hf⟩ := oc_e hf
      refine mV_rl (wd := wC ad cI cJ cZ) (σ := r_30) (As := [.int r_43]) (rest := []) ⟨hx, hb, hml, hown, hts⟩ hK hP hD hS (c_X3_calleesOf l D ad cI cJ cZ r_30 r_43 hg_46) (cwV 1 hts gX7_callee_X3_calleesOf rfl rfl rfl hd_X3_calleesOf ⟨Nat.le_trans (Nat.le_of_ble_eq_true rfl) hR.1, Nat.le_trans (Nat.le_of_ble_eq_true rfl) hR.2⟩) rfl (wC_5 _ _ _ _ _) rfl hl.1 rfl (Nat.le_of_ble_eq_true rfl) dX7_callee_46 (fun H locs hP hS => ?_)
      refine lv_iload_n hx hb dX7_callee_49 rfl (lv_at hl 3 rfl) ?_
      obtain ⟨r_50, hg_50, hf⟩ := oc_e hf
      refine mS_i (D := D) (As := [.long r_46, .int v3]) (rest := []) ⟨hx, hb, hml, hown, hts⟩ hP hS (c_X0_nth l r_46 v3 hg_50) (va_cwS 2 hts gX7_callee_X0_nth rfl rfl rfl hd_X0_nth ⟨Nat.le_trans (Nat.le_of_ble_eq_true rfl) hR.1, Nat.le_trans (Nat.le_of_ble_eq_true rfl) hR.2⟩) rfl hl.1 rfl (Nat.le_of_ble_eq_true rfl) dX7_callee_50 (fun H locs hP hS => ?_)
      exact rt_i (wd := wC ad cI cJ cZ) hx hb hr hlk (Option.some.inj hf) hP hS dX7_callee_53
    · rw [if_pos c_20] at hf
      exact w_X7_callee_23 hm hR hK hD σ hf _ _ _ hP hS (lv_sub hl [] rfl)
theorem hd_X7_callee : yX7_callee.cls = RX7 ∧ yX7_callee.cls ≠ "java/lang/invoke/MethodHandle" ∧ yX7_callee.cls ≠ "java/lang/invoke/VarHandle" ∧ (parseMethodDescriptor yX7_callee.desc).map (fun d => d.parameters.length) = some 3 := by decide +kernel
set_option maxHeartbeats 4000000 in
set_option maxRecDepth 100000 in
theorem c_X7_callee (l : Launch) (D : va_G) (ad : Nat → Nat) (cI cJ cZ : ClassId) (σ : SS) (v1 : Int32) (v2 : Int32) (v3 : Int32) {res : Int32 × SS} (hf : p_X7_callee_0 v1 v2 v3 σ = some res) : Met l yX7_callee wsX7_callee ({ frames := 7, cells := 0, slots := 0, locals := 158 } : Room) (PW D (tyw cI cJ cZ) (wC ad cI cJ cZ σ) [.ref (ad 0), .int v1, .int v2, .int v3]) (va_Qi (fun (r : Int32) (u : SS) => (r, u) = res) (fun u t => va_P D vwCl (wC ad cI cJ cZ u) t.heap) (aC ad)) 0 0 (aC ad) := by
  refine Met.ofW (cc := cX7_callee) (maxL := 4) (ret := (some .int)) (by decide) rfl ?_
  intro p e s m args below meth c s₁ B hml hv
  obtain ⟨rfl, hP, hK, hD0⟩ := hv
  have hD : ∀ σ, va_D (aC ad) (wC ad cI cJ cZ σ) := fun σ => wd_D hD0 (wC_map _ _ _ _ _) (wC_map _ _ _ _ _)
  have hm : mx p s m _ meth c cX7_callee 4 (some .int) wsX7_callee RX7 := ⟨B.exec, B.bytes, B.returns, hml, findClass_of_methodNamed B.named, atoms_spec (ws := wsX7_callee) B.pre, B.notSynchronized⟩
  have hl := lv_entry ([.ref (ad 0), .int v1, .int v2, .int v3]) (n := 4) (Nat.le_of_ble_eq_true rfl)
  rw [lg_entry_eq]
  generalize (lg_sl ([.ref (ad 0), .int v1, .int v2, .int v3]) ++ List.replicate (4 - (lg_sl ([.ref (ad 0), .int v1, .int v2, .int v3])).length) Slot.unset).toArray = ls at hl ⊢
  exact w_X7_callee_0 hm ⟨Nat.le_refl _, Nat.le_refl _⟩ hK hD v1 v2 v3 σ hf _ _ _ hP va_S.rf hl
/-! CallGraphs.faults(III)I -/
theorem in_X7_faults_X7 : ∀ w ∈ u_ws RX7 TX7 6, w ∈ wsX7_faults := fun w h => List.mem_cons_of_mem _ (List.mem_append_left _ (List.mem_append_left _ (List.mem_append_left _ (List.mem_append_left _ (List.mem_append_left _ (List.mem_append_right _ h))))))
def p_X7_faults_23 (σ : SS) : Option (Int32 × SS) := some ((-101), σ)
set_option maxHeartbeats 4000000 in
set_option maxRecDepth 100000 in
theorem w_X7_faults_23 {p : Program} {l : Launch} {e : Env} {R : Room} {s : State} {m : MethodId} {args : Array Value} {below : List Frame} {meth : Method} {c : Code} {D : va_G} {ad : Nat → Nat} {cI cJ cZ : ClassId} {res : Int32 × SS} (hm : mx p s m args meth c cX7_faults 4 (some .int) wsX7_faults RX7) (hR : 7 ≤ R.frames ∧ 158 ≤ R.locals) (hK : va_K D vwCl (tyw cI cJ cZ) s) (hD : ∀ σ, va_D (aC ad) (wC ad cI cJ cZ σ)) (σ : SS) (hf : p_X7_faults_23 σ = some res) (H : Heap) (locs : List Loc) (ls : Array Slot) (hP : va_P D vwCl (wC ad cI cJ cZ σ) H) (hS : va_S (aC ad) s.heap H locs) (hl : lv_has ls 4 []) : W p l e R s m args below meth c H locs 0 0 (MQ below (va_Qi (fun (r : Int32) (u : SS) => (r, u) = res) (fun u t => va_P D vwCl (wC ad cI cJ cZ u) t.heap) (aC ad)) args s 0 0 (aC ad)) (F0 m 23 ls []) := by
  obtain ⟨hx, hb, hr, hml, hown, hts, hlk⟩ := id hm
  unfold p_X7_faults_23 at hf
  refine lv_bipush (v := (-101)) hx hb dX7_faults_23 (by decide) ?_
  exact rt_i (wd := wC ad cI cJ cZ) hx hb hr hlk (Option.some.inj hf) hP hS dX7_faults_25
def p_X7_faults_38 (σ : SS) : Option (Int32 × SS) := some ((-102), σ)
set_option maxHeartbeats 4000000 in
set_option maxRecDepth 100000 in
theorem w_X7_faults_38 {p : Program} {l : Launch} {e : Env} {R : Room} {s : State} {m : MethodId} {args : Array Value} {below : List Frame} {meth : Method} {c : Code} {D : va_G} {ad : Nat → Nat} {cI cJ cZ : ClassId} {res : Int32 × SS} (hm : mx p s m args meth c cX7_faults 4 (some .int) wsX7_faults RX7) (hR : 7 ≤ R.frames ∧ 158 ≤ R.locals) (hK : va_K D vwCl (tyw cI cJ cZ) s) (hD : ∀ σ, va_D (aC ad) (wC ad cI cJ cZ σ)) (σ : SS) (hf : p_X7_faults_38 σ = some res) (H : Heap) (locs : List Loc) (ls : Array Slot) (hP : va_P D vwCl (wC ad cI cJ cZ σ) H) (hS : va_S (aC ad) s.heap H locs) (hl : lv_has ls 4 []) : W p l e R s m args below meth c H locs 0 0 (MQ below (va_Qi (fun (r : Int32) (u : SS) => (r, u) = res) (fun u t => va_P D vwCl (wC ad cI cJ cZ u) t.heap) (aC ad)) args s 0 0 (aC ad)) (F0 m 38 ls []) := by
  obtain ⟨hx, hb, hr, hml, hown, hts, hlk⟩ := id hm
  unfold p_X7_faults_38 at hf
  refine lv_bipush (v := (-102)) hx hb dX7_faults_38 (by decide) ?_
  exact rt_i (wd := wC ad cI cJ cZ) hx hb hr hlk (Option.some.inj hf) hP hS dX7_faults_40
def p_X7_faults_0 (v1 : Int32) (v2 : Int32) (v3 : Int32) (σ : SS) : Option (Int32 × SS) := oc (p_X4_knows_0 σ v1) (fun r_5 => if r_5 = 0 then p_X7_faults_23 σ else oc (p_X5_knows_0 σ v1 v2) (fun r_17 => if r_17 = 0 then p_X7_faults_23 σ else if v3 < (-5) then p_X7_faults_38 σ else if v3 ≤ (-2) then oc (p_X3_refresh_0 σ) (fun r_45 => oc (p_X3_reached_0 r_45) (fun r_52 => oc (p_X0_has_0 r_52 v1) (fun r_56 => if r_56 = 0 then some (0, r_45) else oc (p_X5_at_0 r_45 v1 v2) (fun r_74 => oc (p_X3_faultsOf_0 r_45 r_74 v3) (fun r_78 => some (r_78, r_45)))))) else p_X7_faults_38 σ))
set_option maxHeartbeats 4000000 in
set_option maxRecDepth 100000 in
theorem w_X7_faults_0 {p : Program} {l : Launch} {e : Env} {R : Room} {s : State} {m : MethodId} {args : Array Value} {below : List Frame} {meth : Method} {c : Code} {D : va_G} {ad : Nat → Nat} {cI cJ cZ : ClassId} {res : Int32 × SS} (hm : mx p s m args meth c cX7_faults 4 (some .int) wsX7_faults RX7) (hR : 7 ≤ R.frames ∧ 158 ≤ R.locals) (hK : va_K D vwCl (tyw cI cJ cZ) s) (hD : ∀ σ, va_D (aC ad) (wC ad cI cJ cZ σ)) (v1 : Int32) (v2 : Int32) (v3 : Int32) (σ : SS) (hf : p_X7_faults_0 v1 v2 v3 σ = some res) (H : Heap) (locs : List Loc) (ls : Array Slot) (hP : va_P D vwCl (wC ad cI cJ cZ σ) H) (hS : va_S (aC ad) s.heap H locs) (hl : lv_has ls 4 [(0, .ref (ad 0)), (1, .int v1), (2, .int v2), (3, .int v3)]) : W p l e R s m args below meth c H locs 0 0 (MQ below (va_Qi (fun (r : Int32) (u : SS) => (r, u) = res) (fun u t => va_P D vwCl (wC ad cI cJ cZ u) t.heap) (aC ad)) args s 0 0 (aC ad)) (F0 m 0 ls []) := by
  obtain ⟨hx, hb, hr, hml, hown, hts, hlk⟩ := id hm
  unfold p_X7_faults_0 at hf
  refine lv_aload_n hx hb dX7_faults_0 rfl (lv_at hl 0 rfl) ?_
  refine va_get (D := D) (ci := 6) (v := .ref (ad 2)) (C := RX7) (T := TX7) (N := 6) hx hb hts in_X7_faults_X7 hown hK hP 0 (wC_0 _ _ _ _ _) rfl 1 (by decide) (hts (.fieldLink RX7 21 "CallGraphs" "members" "LCallGraphs$Members;") (List.mem_of_getElem? (i := 1) rfl)) (fun _ h9 => h9) (fC_0_1 _ _) dX7_faults_1 ?_
  refine lv_iload_n hx hb dX7_faults_4 rfl (lv_at hl 1 rfl) ?_
  obtain ⟨r_5, hg_5, hf⟩ := oc_e hf
  refine mV_ri (wd := wC ad cI cJ cZ) (σ := σ) (As := [.int v1]) (rest := []) ⟨hx, hb, hml, hown, hts⟩ hK hP hD hS (c_X4_knows l D ad cI cJ cZ σ v1 hg_5) (cwV 1 hts gX7_faults_X4_knows rfl rfl rfl hd_X4_knows ⟨Nat.le_trans (Nat.le_of_ble_eq_true rfl) hR.1, Nat.le_trans (Nat.le_of_ble_eq_true rfl) hR.2⟩) rfl (wC_2 _ _ _ _ _) rfl hl.1 rfl (Nat.le_of_ble_eq_true rfl) dX7_faults_5 (fun H locs hP hS => ?_)
  refine lv_if_eq (tgt := 23) hx hb dX7_faults_8 (by decide) (fun c_8 => ?_) (fun c_8 => ?_)
  · rw [if_pos c_8] at hf
    exact w_X7_faults_23 hm hR hK hD σ hf _ _ _ hP hS (lv_sub hl [] rfl)
  · rw [if_neg c_8] at hf
    refine lv_aload_n hx hb dX7_faults_11 rfl (lv_at hl 0 rfl) ?_
    refine va_get (D := D) (ci := 6) (v := .ref (ad 4)) (C := RX7) (T := TX7) (N := 6) hx hb hts in_X7_faults_X7 hown hK hP 0 (wC_0 _ _ _ _ _) rfl 3 (by decide) (hts (.fieldLink RX7 37 "CallGraphs" "ops" "LCallGraphs$Ops;") (List.mem_of_getElem? (i := 2) rfl)) (fun _ h9 => h9) (fC_0_3 _ _) dX7_faults_12 ?_
    refine lv_iload_n hx hb dX7_faults_15 rfl (lv_at hl 1 rfl) ?_
    refine lv_iload_n hx hb dX7_faults_16 rfl (lv_at hl 2 rfl) ?_
    obtain ⟨r_17, hg_17, hf⟩ := oc_e hf
    refine mV_ri (wd := wC ad cI cJ cZ) (σ := σ) (As := [.int v1, .int v2]) (rest := []) ⟨hx, hb, hml, hown, hts⟩ hK hP hD hS (c_X5_knows l D ad cI cJ cZ σ v1 v2 hg_17) (cwV 2 hts gX7_faults_X5_knows rfl rfl rfl hd_X5_knows ⟨Nat.le_trans (Nat.le_of_ble_eq_true rfl) hR.1, Nat.le_trans (Nat.le_of_ble_eq_true rfl) hR.2⟩) rfl (wC_4 _ _ _ _ _) rfl hl.1 rfl (Nat.le_of_ble_eq_true rfl) dX7_faults_17 (fun H locs hP hS => ?_)
    refine lv_if_ne (tgt := 26) hx hb dX7_faults_20 (by decide) (fun c_20 => ?_) (fun c_20 => ?_)
    · rw [if_neg c_20] at hf
      refine lv_iload_n hx hb dX7_faults_26 rfl (lv_at hl 3 rfl) ?_
      refine lv_bipush (v := (-5)) hx hb dX7_faults_27 (by decide) ?_
      refine lv_icmp_lt (tgt := 38) hx hb dX7_faults_29 (by decide) (fun c_29 => ?_) (fun c_29 => ?_)
      · rw [if_pos c_29] at hf
        exact w_X7_faults_38 hm hR hK hD σ hf _ _ _ hP hS (lv_sub hl [] rfl)
      · rw [if_neg c_29] at hf
        refine lv_iload_n hx hb dX7_faults_32 rfl (lv_at hl 3 rfl) ?_
        refine lv_bipush (v := (-2)) hx hb dX7_faults_33 (by decide) ?_
        refine lv_icmp_le (tgt := 41) hx hb dX7_faults_35 (by decide) (fun c_35 => ?_) (fun c_35 => ?_)
        · rw [if_pos c_35] at hf
          refine lv_aload_n hx hb dX7_faults_41 rfl (lv_at hl 0 rfl) ?_
          refine va_get (D := D) (ci := 6) (v := .ref (ad 5)) (C := RX7) (T := TX7) (N := 6) hx hb hts in_X7_faults_X7 hown hK hP 0 (wC_0 _ _ _ _ _) rfl 4 (by decide) (hts (.fieldLink RX7 46 "CallGraphs" "graph" "LCallGraphs$Graph;") (List.mem_of_getElem? (i := 3) rfl)) (fun _ h9 => h9) (fC_0_4 _ _) dX7_faults_42 ?_
          obtain ⟨r_45, hg_45, hf⟩ := oc_e hf
          refine mV_wv (wd := wC ad cI cJ cZ) (σ := σ) (As := []) (rest := []) ⟨hx, hb, hml, hown, hts⟩ hK hP hD hS (c_X3_refresh l D ad cI cJ cZ σ hg_45) (cwV 0 hts gX7_faults_X3_refresh rfl rfl rfl hd_X3_refresh ⟨Nat.le_trans (Nat.le_of_ble_eq_true rfl) hR.1, Nat.le_trans (Nat.le_of_ble_eq_true rfl) hR.2⟩) rfl (wC_5 _ _ _ _ _) rfl hl.1 rfl (Nat.le_of_ble_eq_true rfl) dX7_faults_45 (fun H locs hP hS => ?_)
          refine lv_aload_n hx hb dX7_faults_48 rfl (lv_at hl 0 rfl) ?_
          refine va_get (D := D) (ci := 6) (v := .ref (ad 5)) (C := RX7) (T := TX7) (N := 6) hx hb hts in_X7_faults_X7 hown hK hP 0 (wC_0 _ _ _ _ _) rfl 4 (by decide) (hts (.fieldLink RX7 46 "CallGraphs" "graph" "LCallGraphs$Graph;") (List.mem_of_getElem? (i := 3) rfl)) (fun _ h9 => h9) (fC_0_4 _ _) dX7_faults_49 ?_
          obtain ⟨r_52, hg_52, hf⟩ := oc_e hf
          refine mV_rl (wd := wC ad cI cJ cZ) (σ := r_45) (As := []) (rest := []) ⟨hx, hb, hml, hown, hts⟩ hK hP hD hS (c_X3_reached l D ad cI cJ cZ r_45 hg_52) (cwV 0 hts gX7_faults_X3_reached rfl rfl rfl hd_X3_reached ⟨Nat.le_trans (Nat.le_of_ble_eq_true rfl) hR.1, Nat.le_trans (Nat.le_of_ble_eq_true rfl) hR.2⟩) rfl (wC_5 _ _ _ _ _) rfl hl.1 rfl (Nat.le_of_ble_eq_true rfl) dX7_faults_52 (fun H locs hP hS => ?_)
          refine lv_iload_n hx hb dX7_faults_55 rfl (lv_at hl 1 rfl) ?_
          obtain ⟨r_56, hg_56, hf⟩ := oc_e hf
          refine mS_i (D := D) (As := [.long r_52, .int v1]) (rest := []) ⟨hx, hb, hml, hown, hts⟩ hP hS (c_X0_has l r_52 v1 hg_56) (va_cwS 2 hts gX7_faults_X0_has rfl rfl rfl hd_X0_has ⟨Nat.le_trans (Nat.le_of_ble_eq_true rfl) hR.1, Nat.le_trans (Nat.le_of_ble_eq_true rfl) hR.2⟩) rfl hl.1 rfl (Nat.le_of_ble_eq_true rfl) dX7_faults_56 (fun H locs hP hS => ?_)
          refine lv_if_ne (tgt := 64) hx hb dX7_faults_59 (by decide) (fun c_59 => ?_) (fun c_59 => ?_)
          · rw [if_neg c_59] at hf
            refine lv_aload_n hx hb dX7_faults_64 rfl (lv_at hl 0 rfl) ?_
            refine va_get (D := D) (ci := 6) (v := .ref (ad 5)) (C := RX7) (T := TX7) (N := 6) hx hb hts in_X7_faults_X7 hown hK hP 0 (wC_0 _ _ _ _ _) rfl 4 (by decide) (hts (.fieldLink RX7 46 "CallGraphs" "graph" "LCallGraphs$Graph;") (List.mem_of_getElem? (i := 3) rfl)) (fun _ h9 => h9) (fC_0_4 _ _) dX7_faults_65 ?_
            refine lv_aload_n hx hb dX7_faults_68 rfl (lv_at hl 0 rfl) ?_
            refine va_get (D := D) (ci := 6) (v := .ref (ad 4)) (C := RX7) (T := TX7) (N := 6) hx hb hts in_X7_faults_X7 hown hK hP 0 (wC_0 _ _ _ _ _) rfl 3 (by decide) (hts (.fieldLink RX7 37 "CallGraphs" "ops" "LCallGraphs$Ops;") (List.mem_of_getElem? (i := 2) rfl)) (fun _ h9 => h9) (fC_0_3 _ _) dX7_faults_69 ?_
            refine lv_iload_n hx hb dX7_faults_72 rfl (lv_at hl 1 rfl) ?_
            refine lv_iload_n hx hb dX7_faults_73 rfl (lv_at hl 2 rfl) ?_
            obtain ⟨r_74, hg_74, hf⟩ := oc_e hf
            refine mV_ri (wd := wC ad cI cJ cZ) (σ := r_45) (As := [.int v1, .int v2]) (rest := [.ref (ad 5)]) ⟨hx, hb, hml, hown, hts⟩ hK hP hD hS (c_X5_at l D ad cI cJ cZ r_45 v1 v2 hg_74) (cwV 2 hts gX7_faults_X5_at rfl rfl rfl hd_X5_at ⟨Nat.le_trans (Nat.le_of_ble_eq_true rfl) hR.1, Nat.le_trans (Nat.le_of_ble_eq_true rfl) hR.2⟩) rfl (wC_4 _ _ _ _ _) rfl hl.1 rfl (Nat.le_of_ble_eq_true rfl) dX7_faults_74 (fun H locs hP hS => ?_)
            refine lv_iload_n hx hb dX7_faults_77 rfl (lv_at hl 3 rfl) ?_
            obtain ⟨r_78, hg_78, hf⟩ := oc_e hf
            refine mV_ri (wd := wC ad cI cJ cZ) (σ := r_45) (As := [.int r_74, .int v3]) (rest := []) ⟨hx, hb, hml, hown, hts⟩ hK hP hD hS (c_X3_faultsOf l D ad cI cJ cZ r_45 r_74 v3 hg_78) (cwV 2 hts gX7_faults_X3_faultsOf rfl rfl rfl hd_X3_faultsOf ⟨Nat.le_trans (Nat.le_of_ble_eq_true rfl) hR.1, Nat.le_trans (Nat.le_of_ble_eq_true rfl) hR.2⟩) rfl (wC_5 _ _ _ _ _) rfl hl.1 rfl (Nat.le_of_ble_eq_true rfl) dX7_faults_78 (fun H locs hP hS => ?_)
            exact rt_i (wd := wC ad cI cJ cZ) hx hb hr hlk (Option.some.inj hf) hP hS dX7_faults_81
          · rw [if_pos c_59] at hf
            refine lv_iconst (v := 0) hx hb dX7_faults_62 (by decide) ?_
            exact rt_i (wd := wC ad cI cJ cZ) hx hb hr hlk (Option.some.inj hf) hP hS dX7_faults_63
        · rw [if_neg c_35] at hf
          exact w_X7_faults_38 hm hR hK hD σ hf _ _ _ hP hS (lv_sub hl [] rfl)
    · rw [if_pos c_20] at hf
      exact w_X7_faults_23 hm hR hK hD σ hf _ _ _ hP hS (lv_sub hl [] rfl)
theorem hd_X7_faults : yX7_faults.cls = RX7 ∧ yX7_faults.cls ≠ "java/lang/invoke/MethodHandle" ∧ yX7_faults.cls ≠ "java/lang/invoke/VarHandle" ∧ (parseMethodDescriptor yX7_faults.desc).map (fun d => d.parameters.length) = some 3 := by decide +kernel
set_option maxHeartbeats 4000000 in
set_option maxRecDepth 100000 in
theorem c_X7_faults (l : Launch) (D : va_G) (ad : Nat → Nat) (cI cJ cZ : ClassId) (σ : SS) (v1 : Int32) (v2 : Int32) (v3 : Int32) {res : Int32 × SS} (hf : p_X7_faults_0 v1 v2 v3 σ = some res) : Met l yX7_faults wsX7_faults ({ frames := 7, cells := 0, slots := 0, locals := 158 } : Room) (PW D (tyw cI cJ cZ) (wC ad cI cJ cZ σ) [.ref (ad 0), .int v1, .int v2, .int v3]) (va_Qi (fun (r : Int32) (u : SS) => (r, u) = res) (fun u t => va_P D vwCl (wC ad cI cJ cZ u) t.heap) (aC ad)) 0 0 (aC ad) := by
  refine Met.ofW (cc := cX7_faults) (maxL := 4) (ret := (some .int)) (by decide) rfl ?_
  intro p e s m args below meth c s₁ B hml hv
  obtain ⟨rfl, hP, hK, hD0⟩ := hv
  have hD : ∀ σ, va_D (aC ad) (wC ad cI cJ cZ σ) := fun σ => wd_D hD0 (wC_map _ _ _ _ _) (wC_map _ _ _ _ _)
  have hm : mx p s m _ meth c cX7_faults 4 (some .int) wsX7_faults RX7 := ⟨B.exec, B.bytes, B.returns, hml, findClass_of_methodNamed B.named, atoms_spec (ws := wsX7_faults) B.pre, B.notSynchronized⟩
  have hl := lv_entry ([.ref (ad 0), .int v1, .int v2, .int v3]) (n := 4) (Nat.le_of_ble_eq_true rfl)
  rw [lg_entry_eq]
  generalize (lg_sl ([.ref (ad 0), .int v1, .int v2, .int v3]) ++ List.replicate (4 - (lg_sl ([.ref (ad 0), .int v1, .int v2, .int v3])).length) Slot.unset).toArray = ls at hl ⊢
  exact w_X7_faults_0 hm ⟨Nat.le_refl _, Nat.le_refl _⟩ hK hD v1 v2 v3 σ hf _ _ _ hP va_S.rf hl
/-! CallGraphs.caller(II)I -/
theorem in_X7_caller_X7 : ∀ w ∈ u_ws RX7 TX7 6, w ∈ wsX7_caller := fun w h => List.mem_cons_of_mem _ (List.mem_append_left _ (List.mem_append_left _ (List.mem_append_left _ (List.mem_append_left _ (List.mem_append_left _ (List.mem_append_right _ h))))))
def p_X7_caller_0 (v1 : Int32) (v2 : Int32) (σ : SS) : Option (Int32 × SS) := oc (p_X4_knows_0 σ v1) (fun r_5 => if r_5 = 0 then some ((-101), σ) else oc (p_X3_refresh_0 σ) (fun r_18 => oc (p_X3_callersOf_0 r_18 v1) (fun r_26 => oc (p_X0_nth_0 r_26 v2) (fun r_30 => some (r_30, r_18)))))
set_option maxHeartbeats 4000000 in
set_option maxRecDepth 100000 in
theorem w_X7_caller_0 {p : Program} {l : Launch} {e : Env} {R : Room} {s : State} {m : MethodId} {args : Array Value} {below : List Frame} {meth : Method} {c : Code} {D : va_G} {ad : Nat → Nat} {cI cJ cZ : ClassId} {res : Int32 × SS} (hm : mx p s m args meth c cX7_caller 3 (some .int) wsX7_caller RX7) (hR : 7 ≤ R.frames ∧ 158 ≤ R.locals) (hK : va_K D vwCl (tyw cI cJ cZ) s) (hD : ∀ σ, va_D (aC ad) (wC ad cI cJ cZ σ)) (v1 : Int32) (v2 : Int32) (σ : SS) (hf : p_X7_caller_0 v1 v2 σ = some res) (H : Heap) (locs : List Loc) (ls : Array Slot) (hP : va_P D vwCl (wC ad cI cJ cZ σ) H) (hS : va_S (aC ad) s.heap H locs) (hl : lv_has ls 3 [(0, .ref (ad 0)), (1, .int v1), (2, .int v2)]) : W p l e R s m args below meth c H locs 0 0 (MQ below (va_Qi (fun (r : Int32) (u : SS) => (r, u) = res) (fun u t => va_P D vwCl (wC ad cI cJ cZ u) t.heap) (aC ad)) args s 0 0 (aC ad)) (F0 m 0 ls []) := by
  obtain ⟨hx, hb, hr, hml, hown, hts, hlk⟩ := id hm
  unfold p_X7_caller_0 at hf
  refine lv_aload_n hx hb dX7_caller_0 rfl (lv_at hl 0 rfl) ?_
  refine va_get (D := D) (ci := 6) (v := .ref (ad 2)) (C := RX7) (T := TX7) (N := 6) hx hb hts in_X7_caller_X7 hown hK hP 0 (wC_0 _ _ _ _ _) rfl 1 (by decide) (hts (.fieldLink RX7 21 "CallGraphs" "members" "LCallGraphs$Members;") (List.mem_of_getElem? (i := 1) rfl)) (fun _ h9 => h9) (fC_0_1 _ _) dX7_caller_1 ?_
  refine lv_iload_n hx hb dX7_caller_4 rfl (lv_at hl 1 rfl) ?_
  obtain ⟨r_5, hg_5, hf⟩ := oc_e hf
  refine mV_ri (wd := wC ad cI cJ cZ) (σ := σ) (As := [.int v1]) (rest := []) ⟨hx, hb, hml, hown, hts⟩ hK hP hD hS (c_X4_knows l D ad cI cJ cZ σ v1 hg_5) (cwV 1 hts gX7_caller_X4_knows rfl rfl rfl hd_X4_knows ⟨Nat.le_trans (Nat.le_of_ble_eq_true rfl) hR.1, Nat.le_trans (Nat.le_of_ble_eq_true rfl) hR.2⟩) rfl (wC_2 _ _ _ _ _) rfl hl.1 rfl (Nat.le_of_ble_eq_true rfl) dX7_caller_5 (fun H locs hP hS => ?_)
  refine lv_if_ne (tgt := 14) hx hb dX7_caller_8 (by decide) (fun c_8 => ?_) (fun c_8 => ?_)
  · rw [if_neg c_8] at hf
    refine lv_aload_n hx hb dX7_caller_14 rfl (lv_at hl 0 rfl) ?_
    refine va_get (D := D) (ci := 6) (v := .ref (ad 5)) (C := RX7) (T := TX7) (N := 6) hx hb hts in_X7_caller_X7 hown hK hP 0 (wC_0 _ _ _ _ _) rfl 4 (by decide) (hts (.fieldLink RX7 46 "CallGraphs" "graph" "LCallGraphs$Graph;") (List.mem_of_getElem? (i := 2) rfl)) (fun _ h9 => h9) (fC_0_4 _ _) dX7_caller_15 ?_
    obtain ⟨r_18, hg_18, hf⟩ := oc_e hf
    refine mV_wv (wd := wC ad cI cJ cZ) (σ := σ) (As := []) (rest := []) ⟨hx, hb, hml, hown, hts⟩ hK hP hD hS (c_X3_refresh l D ad cI cJ cZ σ hg_18) (cwV 0 hts gX7_caller_X3_refresh rfl rfl rfl hd_X3_refresh ⟨Nat.le_trans (Nat.le_of_ble_eq_true rfl) hR.1, Nat.le_trans (Nat.le_of_ble_eq_true rfl) hR.2⟩) rfl (wC_5 _ _ _ _ _) rfl hl.1 rfl (Nat.le_of_ble_eq_true rfl) dX7_caller_18 (fun H locs hP hS => ?_)
    refine lv_aload_n hx hb dX7_caller_21 rfl (lv_at hl 0 rfl) ?_
    refine va_get (D := D) (ci := 6) (v := .ref (ad 5)) (C := RX7) (T := TX7) (N := 6) hx hb hts in_X7_caller_X7 hown hK hP 0 (wC_0 _ _ _ _ _) rfl 4 (by decide) (hts (.fieldLink RX7 46 "CallGraphs" "graph" "LCallGraphs$Graph;") (List.mem_of_getElem? (i := 2) rfl)) (fun _ h9 => h9) (fC_0_4 _ _) dX7_caller_22 ?_
    refine lv_iload_n hx hb dX7_caller_25 rfl (lv_at hl 1 rfl) ?_
    obtain ⟨r_26, hg_26, hf⟩ := oc_e hf
    refine mV_rl (wd := wC ad cI cJ cZ) (σ := r_18) (As := [.int v1]) (rest := []) ⟨hx, hb, hml, hown, hts⟩ hK hP hD hS (c_X3_callersOf l D ad cI cJ cZ r_18 v1 hg_26) (cwV 1 hts gX7_caller_X3_callersOf rfl rfl rfl hd_X3_callersOf ⟨Nat.le_trans (Nat.le_of_ble_eq_true rfl) hR.1, Nat.le_trans (Nat.le_of_ble_eq_true rfl) hR.2⟩) rfl (wC_5 _ _ _ _ _) rfl hl.1 rfl (Nat.le_of_ble_eq_true rfl) dX7_caller_26 (fun H locs hP hS => ?_)
    refine lv_iload_n hx hb dX7_caller_29 rfl (lv_at hl 2 rfl) ?_
    obtain ⟨r_30, hg_30, hf⟩ := oc_e hf
    refine mS_i (D := D) (As := [.long r_26, .int v2]) (rest := []) ⟨hx, hb, hml, hown, hts⟩ hP hS (c_X0_nth l r_26 v2 hg_30) (va_cwS 2 hts gX7_caller_X0_nth rfl rfl rfl hd_X0_nth ⟨Nat.le_trans (Nat.le_of_ble_eq_true rfl) hR.1, Nat.le_trans (Nat.le_of_ble_eq_true rfl) hR.2⟩) rfl hl.1 rfl (Nat.le_of_ble_eq_true rfl) dX7_caller_30 (fun H locs hP hS => ?_)
    exact rt_i (wd := wC ad cI cJ cZ) hx hb hr hlk (Option.some.inj hf) hP hS dX7_caller_33
  · rw [if_pos c_8] at hf
    refine lv_bipush (v := (-101)) hx hb dX7_caller_11 (by decide) ?_
    exact rt_i (wd := wC ad cI cJ cZ) hx hb hr hlk (Option.some.inj hf) hP hS dX7_caller_13
theorem hd_X7_caller : yX7_caller.cls = RX7 ∧ yX7_caller.cls ≠ "java/lang/invoke/MethodHandle" ∧ yX7_caller.cls ≠ "java/lang/invoke/VarHandle" ∧ (parseMethodDescriptor yX7_caller.desc).map (fun d => d.parameters.length) = some 2 := by decide +kernel
set_option maxHeartbeats 4000000 in
set_option maxRecDepth 100000 in
theorem c_X7_caller (l : Launch) (D : va_G) (ad : Nat → Nat) (cI cJ cZ : ClassId) (σ : SS) (v1 : Int32) (v2 : Int32) {res : Int32 × SS} (hf : p_X7_caller_0 v1 v2 σ = some res) : Met l yX7_caller wsX7_caller ({ frames := 7, cells := 0, slots := 0, locals := 158 } : Room) (PW D (tyw cI cJ cZ) (wC ad cI cJ cZ σ) [.ref (ad 0), .int v1, .int v2]) (va_Qi (fun (r : Int32) (u : SS) => (r, u) = res) (fun u t => va_P D vwCl (wC ad cI cJ cZ u) t.heap) (aC ad)) 0 0 (aC ad) := by
  refine Met.ofW (cc := cX7_caller) (maxL := 3) (ret := (some .int)) (by decide) rfl ?_
  intro p e s m args below meth c s₁ B hml hv
  obtain ⟨rfl, hP, hK, hD0⟩ := hv
  have hD : ∀ σ, va_D (aC ad) (wC ad cI cJ cZ σ) := fun σ => wd_D hD0 (wC_map _ _ _ _ _) (wC_map _ _ _ _ _)
  have hm : mx p s m _ meth c cX7_caller 3 (some .int) wsX7_caller RX7 := ⟨B.exec, B.bytes, B.returns, hml, findClass_of_methodNamed B.named, atoms_spec (ws := wsX7_caller) B.pre, B.notSynchronized⟩
  have hl := lv_entry ([.ref (ad 0), .int v1, .int v2]) (n := 3) (Nat.le_of_ble_eq_true rfl)
  rw [lg_entry_eq]
  generalize (lg_sl ([.ref (ad 0), .int v1, .int v2]) ++ List.replicate (3 - (lg_sl ([.ref (ad 0), .int v1, .int v2])).length) Slot.unset).toArray = ls at hl ⊢
  exact w_X7_caller_0 hm ⟨Nat.le_refl _, Nat.le_refl _⟩ hK hD v1 v2 σ hf _ _ _ hP va_S.rf hl
/-! CallGraphs.way(II)I -/
theorem in_X7_way_X7 : ∀ w ∈ u_ws RX7 TX7 6, w ∈ wsX7_way := fun w h => List.mem_cons_of_mem _ (List.mem_append_left _ (List.mem_append_left _ (List.mem_append_left _ (List.mem_append_left _ (List.mem_append_left _ (List.mem_append_right _ h))))))
def p_X7_way_0 (v1 : Int32) (v2 : Int32) (σ : SS) : Option (Int32 × SS) := oc (p_X4_knows_0 σ v1) (fun r_5 => if r_5 = 0 then some ((-101), σ) else oc (p_X3_refresh_0 σ) (fun r_18 => oc (p_X3_onWay_0 v1 v2 r_18) (fun r_27 => some (r_27.1, r_27.2))))
set_option maxHeartbeats 4000000 in
set_option maxRecDepth 100000 in
theorem w_X7_way_0 {p : Program} {l : Launch} {e : Env} {R : Room} {s : State} {m : MethodId} {args : Array Value} {below : List Frame} {meth : Method} {c : Code} {D : va_G} {ad : Nat → Nat} {cI cJ cZ : ClassId} {res : Int32 × SS} (hm : mx p s m args meth c cX7_way 3 (some .int) wsX7_way RX7) (hR : 7 ≤ R.frames ∧ 158 ≤ R.locals) (hK : va_K D vwCl (tyw cI cJ cZ) s) (hD : ∀ σ, va_D (aC ad) (wC ad cI cJ cZ σ)) (v1 : Int32) (v2 : Int32) (σ : SS) (hf : p_X7_way_0 v1 v2 σ = some res) (H : Heap) (locs : List Loc) (ls : Array Slot) (hP : va_P D vwCl (wC ad cI cJ cZ σ) H) (hS : va_S (aC ad) s.heap H locs) (hl : lv_has ls 3 [(0, .ref (ad 0)), (1, .int v1), (2, .int v2)]) : W p l e R s m args below meth c H locs 0 0 (MQ below (va_Qi (fun (r : Int32) (u : SS) => (r, u) = res) (fun u t => va_P D vwCl (wC ad cI cJ cZ u) t.heap) (aC ad)) args s 0 0 (aC ad)) (F0 m 0 ls []) := by
  obtain ⟨hx, hb, hr, hml, hown, hts, hlk⟩ := id hm
  unfold p_X7_way_0 at hf
  refine lv_aload_n hx hb dX7_way_0 rfl (lv_at hl 0 rfl) ?_
  refine va_get (D := D) (ci := 6) (v := .ref (ad 2)) (C := RX7) (T := TX7) (N := 6) hx hb hts in_X7_way_X7 hown hK hP 0 (wC_0 _ _ _ _ _) rfl 1 (by decide) (hts (.fieldLink RX7 21 "CallGraphs" "members" "LCallGraphs$Members;") (List.mem_of_getElem? (i := 1) rfl)) (fun _ h9 => h9) (fC_0_1 _ _) dX7_way_1 ?_
  refine lv_iload_n hx hb dX7_way_4 rfl (lv_at hl 1 rfl) ?_
  obtain ⟨r_5, hg_5, hf⟩ := oc_e hf
  refine mV_ri (wd := wC ad cI cJ cZ) (σ := σ) (As := [.int v1]) (rest := []) ⟨hx, hb, hml, hown, hts⟩ hK hP hD hS (c_X4_knows l D ad cI cJ cZ σ v1 hg_5) (cwV 1 hts gX7_way_X4_knows rfl rfl rfl hd_X4_knows ⟨Nat.le_trans (Nat.le_of_ble_eq_true rfl) hR.1, Nat.le_trans (Nat.le_of_ble_eq_true rfl) hR.2⟩) rfl (wC_2 _ _ _ _ _) rfl hl.1 rfl (Nat.le_of_ble_eq_true rfl) dX7_way_5 (fun H locs hP hS => ?_)
  refine lv_if_ne (tgt := 14) hx hb dX7_way_8 (by decide) (fun c_8 => ?_) (fun c_8 => ?_)
  · rw [if_neg c_8] at hf
    refine lv_aload_n hx hb dX7_way_14 rfl (lv_at hl 0 rfl) ?_
    refine va_get (D := D) (ci := 6) (v := .ref (ad 5)) (C := RX7) (T := TX7) (N := 6) hx hb hts in_X7_way_X7 hown hK hP 0 (wC_0 _ _ _ _ _) rfl 4 (by decide) (hts (.fieldLink RX7 46 "CallGraphs" "graph" "LCallGraphs$Graph;") (List.mem_of_getElem? (i := 2) rfl)) (fun _ h9 => h9) (fC_0_4 _ _) dX7_way_15 ?_
    obtain ⟨r_18, hg_18, hf⟩ := oc_e hf
    refine mV_wv (wd := wC ad cI cJ cZ) (σ := σ) (As := []) (rest := []) ⟨hx, hb, hml, hown, hts⟩ hK hP hD hS (c_X3_refresh l D ad cI cJ cZ σ hg_18) (cwV 0 hts gX7_way_X3_refresh rfl rfl rfl hd_X3_refresh ⟨Nat.le_trans (Nat.le_of_ble_eq_true rfl) hR.1, Nat.le_trans (Nat.le_of_ble_eq_true rfl) hR.2⟩) rfl (wC_5 _ _ _ _ _) rfl hl.1 rfl (Nat.le_of_ble_eq_true rfl) dX7_way_18 (fun H locs hP hS => ?_)
    refine lv_aload_n hx hb dX7_way_21 rfl (lv_at hl 0 rfl) ?_
    refine va_get (D := D) (ci := 6) (v := .ref (ad 5)) (C := RX7) (T := TX7) (N := 6) hx hb hts in_X7_way_X7 hown hK hP 0 (wC_0 _ _ _ _ _) rfl 4 (by decide) (hts (.fieldLink RX7 46 "CallGraphs" "graph" "LCallGraphs$Graph;") (List.mem_of_getElem? (i := 2) rfl)) (fun _ h9 => h9) (fC_0_4 _ _) dX7_way_22 ?_
    refine lv_iload_n hx hb dX7_way_25 rfl (lv_at hl 1 rfl) ?_
    refine lv_iload_n hx hb dX7_way_26 rfl (lv_at hl 2 rfl) ?_
    obtain ⟨r_27, hg_27, hf⟩ := oc_e hf
    refine mV_wi (wd := wC ad cI cJ cZ) (σ := r_18) (As := [.int v1, .int v2]) (rest := []) ⟨hx, hb, hml, hown, hts⟩ hK hP hD hS (c_X3_onWay l D ad cI cJ cZ r_18 v1 v2 hg_27) (cwV 2 hts gX7_way_X3_onWay rfl rfl rfl hd_X3_onWay ⟨Nat.le_trans (Nat.le_of_ble_eq_true rfl) hR.1, Nat.le_trans (Nat.le_of_ble_eq_true rfl) hR.2⟩) rfl (wC_5 _ _ _ _ _) rfl hl.1 rfl (Nat.le_of_ble_eq_true rfl) dX7_way_27 (fun H locs hP hS => ?_)
    exact rt_i (wd := wC ad cI cJ cZ) hx hb hr hlk (Option.some.inj hf) hP hS dX7_way_30
  · rw [if_pos c_8] at hf
    refine lv_bipush (v := (-101)) hx hb dX7_way_11 (by decide) ?_
    exact rt_i (wd := wC ad cI cJ cZ) hx hb hr hlk (Option.some.inj hf) hP hS dX7_way_13
theorem hd_X7_way : yX7_way.cls = RX7 ∧ yX7_way.cls ≠ "java/lang/invoke/MethodHandle" ∧ yX7_way.cls ≠ "java/lang/invoke/VarHandle" ∧ (parseMethodDescriptor yX7_way.desc).map (fun d => d.parameters.length) = some 2 := by decide +kernel
set_option maxHeartbeats 4000000 in
set_option maxRecDepth 100000 in
theorem c_X7_way (l : Launch) (D : va_G) (ad : Nat → Nat) (cI cJ cZ : ClassId) (σ : SS) (v1 : Int32) (v2 : Int32) {res : Int32 × SS} (hf : p_X7_way_0 v1 v2 σ = some res) : Met l yX7_way wsX7_way ({ frames := 7, cells := 0, slots := 0, locals := 158 } : Room) (PW D (tyw cI cJ cZ) (wC ad cI cJ cZ σ) [.ref (ad 0), .int v1, .int v2]) (va_Qi (fun (r : Int32) (u : SS) => (r, u) = res) (fun u t => va_P D vwCl (wC ad cI cJ cZ u) t.heap) (aC ad)) 0 0 (aC ad) := by
  refine Met.ofW (cc := cX7_way) (maxL := 3) (ret := (some .int)) (by decide) rfl ?_
  intro p e s m args below meth c s₁ B hml hv
  obtain ⟨rfl, hP, hK, hD0⟩ := hv
  have hD : ∀ σ, va_D (aC ad) (wC ad cI cJ cZ σ) := fun σ => wd_D hD0 (wC_map _ _ _ _ _) (wC_map _ _ _ _ _)
  have hm : mx p s m _ meth c cX7_way 3 (some .int) wsX7_way RX7 := ⟨B.exec, B.bytes, B.returns, hml, findClass_of_methodNamed B.named, atoms_spec (ws := wsX7_way) B.pre, B.notSynchronized⟩
  have hl := lv_entry ([.ref (ad 0), .int v1, .int v2]) (n := 3) (Nat.le_of_ble_eq_true rfl)
  rw [lg_entry_eq]
  generalize (lg_sl ([.ref (ad 0), .int v1, .int v2]) ++ List.replicate (3 - (lg_sl ([.ref (ad 0), .int v1, .int v2])).length) Slot.unset).toArray = ls at hl ⊢
  exact w_X7_way_0 hm ⟨Nat.le_refl _, Nat.le_refl _⟩ hK hD v1 v2 σ hf _ _ _ hP va_S.rf hl
/-! CallGraphs.run(JI)I -/
theorem in_X7_run_X7 : ∀ w ∈ u_ws RX7 TX7 6, w ∈ wsX7_run := fun w h => List.mem_cons_of_mem _ (List.mem_append_left _ (List.mem_append_left _ (List.mem_append_left _ (List.mem_append_left _ (List.mem_append_left _ (List.mem_append_right _ h))))))
def p_X7_run_9 (σ : SS) : Option (Int32 × SS) := some ((-102), σ)
set_option maxHeartbeats 4000000 in
set_option maxRecDepth 100000 in
theorem w_X7_run_9 {p : Program} {l : Launch} {e : Env} {R : Room} {s : State} {m : MethodId} {args : Array Value} {below : List Frame} {meth : Method} {c : Code} {D : va_G} {ad : Nat → Nat} {cI cJ cZ : ClassId} {res : Int32 × SS} (hm : mx p s m args meth c cX7_run 4 (some .int) wsX7_run RX7) (hR : 632 ≤ R.frames ∧ 16272 ≤ R.locals) (hK : va_K D vwCl (tyw cI cJ cZ) s) (hD : ∀ σ, va_D (aC ad) (wC ad cI cJ cZ σ)) (σ : SS) (hf : p_X7_run_9 σ = some res) (H : Heap) (locs : List Loc) (ls : Array Slot) (hP : va_P D vwCl (wC ad cI cJ cZ σ) H) (hS : va_S (aC ad) s.heap H locs) (hl : lv_has ls 4 []) : W p l e R s m args below meth c H locs 0 0 (MQ below (va_Qi (fun (r : Int32) (u : SS) => (r, u) = res) (fun u t => va_P D vwCl (wC ad cI cJ cZ u) t.heap) (aC ad)) args s 0 0 (aC ad)) (F0 m 9 ls []) := by
  obtain ⟨hx, hb, hr, hml, hown, hts, hlk⟩ := id hm
  unfold p_X7_run_9 at hf
  refine lv_bipush (v := (-102)) hx hb dX7_run_9 (by decide) ?_
  exact rt_i (wd := wC ad cI cJ cZ) hx hb hr hlk (Option.some.inj hf) hP hS dX7_run_11
def p_X7_run_0 (v1 : Int64) (v3 : Int32) (σ : SS) : Option (Int32 × SS) := if v3 < 0 then p_X7_run_9 σ else if v3 ≤ 5 then oc (p_X2_play_0 v1 σ) (fun r_17 => (if v3 = 0 then oc (p_X2_steps_0 r_17) (fun r_60 => some (r_60, r_17)) else if v3 = 1 then oc (p_X2_ran_0 r_17) (fun r_68 => oc (p_J13_bitCount_95d88_0 r_68) (fun r_71 => some (r_71, r_17))) else if v3 = 2 then oc (p_X2_poolSize_0 r_17) (fun r_79 => some (r_79, r_17)) else if v3 = 3 then oc (p_X2_begunTypes_0 r_17) (fun r_87 => oc (p_J13_bitCount_95d88_0 r_87) (fun r_90 => some (r_90, r_17))) else if v3 = 4 then oc (p_X2_leftCalls_0 r_17) (fun r_98 => some (r_98, r_17)) else oc (p_X2_latest_0 r_17) (fun r_106 => some (r_106, r_17)))) else p_X7_run_9 σ
set_option maxHeartbeats 4000000 in
set_option maxRecDepth 100000 in
theorem w_X7_run_0 {p : Program} {l : Launch} {e : Env} {R : Room} {s : State} {m : MethodId} {args : Array Value} {below : List Frame} {meth : Method} {c : Code} {D : va_G} {ad : Nat → Nat} {cI cJ cZ : ClassId} {res : Int32 × SS} (hm : mx p s m args meth c cX7_run 4 (some .int) wsX7_run RX7) (hR : 632 ≤ R.frames ∧ 16272 ≤ R.locals) (hK : va_K D vwCl (tyw cI cJ cZ) s) (hD : ∀ σ, va_D (aC ad) (wC ad cI cJ cZ σ)) (v1 : Int64) (v3 : Int32) (σ : SS) (hf : p_X7_run_0 v1 v3 σ = some res) (H : Heap) (locs : List Loc) (ls : Array Slot) (hP : va_P D vwCl (wC ad cI cJ cZ σ) H) (hS : va_S (aC ad) s.heap H locs) (hl : lv_has ls 4 [(0, .ref (ad 0)), (1, .long v1), (3, .int v3)]) : W p l e R s m args below meth c H locs 0 0 (MQ below (va_Qi (fun (r : Int32) (u : SS) => (r, u) = res) (fun u t => va_P D vwCl (wC ad cI cJ cZ u) t.heap) (aC ad)) args s 0 0 (aC ad)) (F0 m 0 ls []) := by
  obtain ⟨hx, hb, hr, hml, hown, hts, hlk⟩ := id hm
  unfold p_X7_run_0 at hf
  refine lv_iload_n hx hb dX7_run_0 rfl (lv_at hl 2 rfl) ?_
  refine lv_if_lt (tgt := 9) hx hb dX7_run_1 (by decide) (fun c_1 => ?_) (fun c_1 => ?_)
  · rw [if_pos c_1] at hf
    exact w_X7_run_9 hm hR hK hD σ hf _ _ _ hP hS (lv_sub hl [] rfl)
  · rw [if_neg c_1] at hf
    refine lv_iload_n hx hb dX7_run_4 rfl (lv_at hl 2 rfl) ?_
    refine lv_iconst (v := 5) hx hb dX7_run_5 (by decide) ?_
    refine lv_icmp_le (tgt := 12) hx hb dX7_run_6 (by decide) (fun c_6 => ?_) (fun c_6 => ?_)
    · rw [if_pos c_6] at hf
      refine lv_aload_n hx hb dX7_run_12 rfl (lv_at hl 0 rfl) ?_
      refine va_get (D := D) (ci := 6) (v := .ref (ad 6)) (C := RX7) (T := TX7) (N := 6) hx hb hts in_X7_run_X7 hown hK hP 0 (wC_0 _ _ _ _ _) rfl 5 (by decide) (hts (.fieldLink RX7 53 "CallGraphs" "drawn" "LCallGraphs$DrawnRun;") (List.mem_of_getElem? (i := 1) rfl)) (fun _ h9 => h9) (fC_0_5 _ _) dX7_run_13 ?_
      refine lv_lload_n hx hb dX7_run_16 rfl (lv_at hl 1 rfl) ?_
      obtain ⟨r_17, hg_17, hf⟩ := oc_e hf
      refine mV_wv (wd := wC ad cI cJ cZ) (σ := σ) (As := [.long v1]) (rest := []) ⟨hx, hb, hml, hown, hts⟩ hK hP hD hS (c_X2_play l D ad cI cJ cZ σ v1 hg_17) (cwV 1 hts gX7_run_X2_play rfl rfl rfl hd_X2_play ⟨Nat.le_trans (Nat.le_of_ble_eq_true rfl) hR.1, Nat.le_trans (Nat.le_of_ble_eq_true rfl) hR.2⟩) rfl (wC_6 _ _ _ _ _) rfl hl.1 rfl (Nat.le_of_ble_eq_true rfl) dX7_run_17 (fun H locs hP hS => ?_)
      refine lv_iload_n hx hb dX7_run_20 rfl (lv_at hl 2 rfl) ?_
      by_cases c_21_0 : v3 = 0
      · rw [if_pos c_21_0] at hf
        refine lv_tableIn (off := 35) (tgt := 56) hx hb dX7_run_21 (by rw [c_21_0]; decide) (by rw [c_21_0]; decide) (by rw [c_21_0]; rfl) (by decide) ?_
        refine lv_aload_n hx hb dX7_run_56 rfl (lv_at hl 0 rfl) ?_
        refine va_get (D := D) (ci := 6) (v := .ref (ad 6)) (C := RX7) (T := TX7) (N := 6) hx hb hts in_X7_run_X7 hown hK hP 0 (wC_0 _ _ _ _ _) rfl 5 (by decide) (hts (.fieldLink RX7 53 "CallGraphs" "drawn" "LCallGraphs$DrawnRun;") (List.mem_of_getElem? (i := 1) rfl)) (fun _ h9 => h9) (fC_0_5 _ _) dX7_run_57 ?_
        obtain ⟨r_60, hg_60, hf⟩ := oc_e hf
        refine mV_ri (wd := wC ad cI cJ cZ) (σ := r_17) (As := []) (rest := []) ⟨hx, hb, hml, hown, hts⟩ hK hP hD hS (c_X2_steps l D ad cI cJ cZ r_17 hg_60) (cwV 0 hts gX7_run_X2_steps rfl rfl rfl hd_X2_steps ⟨Nat.le_trans (Nat.le_of_ble_eq_true rfl) hR.1, Nat.le_trans (Nat.le_of_ble_eq_true rfl) hR.2⟩) rfl (wC_6 _ _ _ _ _) rfl hl.1 rfl (Nat.le_of_ble_eq_true rfl) dX7_run_60 (fun H locs hP hS => ?_)
        exact rt_i (wd := wC ad cI cJ cZ) hx hb hr hlk (Option.some.inj hf) hP hS dX7_run_63
      rw [if_neg c_21_0] at hf
      by_cases c_21_1 : v3 = 1
      · rw [if_pos c_21_1] at hf
        refine lv_tableIn (off := 43) (tgt := 64) hx hb dX7_run_21 (by rw [c_21_1]; decide) (by rw [c_21_1]; decide) (by rw [c_21_1]; rfl) (by decide) ?_
        refine lv_aload_n hx hb dX7_run_64 rfl (lv_at hl 0 rfl) ?_
        refine va_get (D := D) (ci := 6) (v := .ref (ad 6)) (C := RX7) (T := TX7) (N := 6) hx hb hts in_X7_run_X7 hown hK hP 0 (wC_0 _ _ _ _ _) rfl 5 (by decide) (hts (.fieldLink RX7 53 "CallGraphs" "drawn" "LCallGraphs$DrawnRun;") (List.mem_of_getElem? (i := 1) rfl)) (fun _ h9 => h9) (fC_0_5 _ _) dX7_run_65 ?_
        obtain ⟨r_68, hg_68, hf⟩ := oc_e hf
        refine mV_rl (wd := wC ad cI cJ cZ) (σ := r_17) (As := []) (rest := []) ⟨hx, hb, hml, hown, hts⟩ hK hP hD hS (c_X2_ran l D ad cI cJ cZ r_17 hg_68) (cwV 0 hts gX7_run_X2_ran rfl rfl rfl hd_X2_ran ⟨Nat.le_trans (Nat.le_of_ble_eq_true rfl) hR.1, Nat.le_trans (Nat.le_of_ble_eq_true rfl) hR.2⟩) rfl (wC_6 _ _ _ _ _) rfl hl.1 rfl (Nat.le_of_ble_eq_true rfl) dX7_run_68 (fun H locs hP hS => ?_)
        obtain ⟨r_71, hg_71, hf⟩ := oc_e hf
        refine mS_i (D := D) (As := [.long r_68]) (rest := []) ⟨hx, hb, hml, hown, hts⟩ hP hS (c_J13_bitCount_95d88 l r_68 hg_71) (va_cwS 1 hts gX7_run_J13_bitCount_95d88 rfl rfl rfl hd_J13_bitCount_95d88 ⟨Nat.le_trans (Nat.le_of_ble_eq_true rfl) hR.1, Nat.le_trans (Nat.le_of_ble_eq_true rfl) hR.2⟩) rfl hl.1 rfl (Nat.le_of_ble_eq_true rfl) dX7_run_71 (fun H locs hP hS => ?_)
        exact rt_i (wd := wC ad cI cJ cZ) hx hb hr hlk (Option.some.inj hf) hP hS dX7_run_74
      rw [if_neg c_21_1] at hf
      by_cases c_21_2 : v3 = 2
      · rw [if_pos c_21_2] at hf
        refine lv_tableIn (off := 54) (tgt := 75) hx hb dX7_run_21 (by rw [c_21_2]; decide) (by rw [c_21_2]; decide) (by rw [c_21_2]; rfl) (by decide) ?_
        refine lv_aload_n hx hb dX7_run_75 rfl (lv_at hl 0 rfl) ?_
        refine va_get (D := D) (ci := 6) (v := .ref (ad 6)) (C := RX7) (T := TX7) (N := 6) hx hb hts in_X7_run_X7 hown hK hP 0 (wC_0 _ _ _ _ _) rfl 5 (by decide) (hts (.fieldLink RX7 53 "CallGraphs" "drawn" "LCallGraphs$DrawnRun;") (List.mem_of_getElem? (i := 1) rfl)) (fun _ h9 => h9) (fC_0_5 _ _) dX7_run_76 ?_
        obtain ⟨r_79, hg_79, hf⟩ := oc_e hf
        refine mV_ri (wd := wC ad cI cJ cZ) (σ := r_17) (As := []) (rest := []) ⟨hx, hb, hml, hown, hts⟩ hK hP hD hS (c_X2_poolSize l D ad cI cJ cZ r_17 hg_79) (cwV 0 hts gX7_run_X2_poolSize rfl rfl rfl hd_X2_poolSize ⟨Nat.le_trans (Nat.le_of_ble_eq_true rfl) hR.1, Nat.le_trans (Nat.le_of_ble_eq_true rfl) hR.2⟩) rfl (wC_6 _ _ _ _ _) rfl hl.1 rfl (Nat.le_of_ble_eq_true rfl) dX7_run_79 (fun H locs hP hS => ?_)
        exact rt_i (wd := wC ad cI cJ cZ) hx hb hr hlk (Option.some.inj hf) hP hS dX7_run_82
      rw [if_neg c_21_2] at hf
      by_cases c_21_3 : v3 = 3
      · rw [if_pos c_21_3] at hf
        refine lv_tableIn (off := 62) (tgt := 83) hx hb dX7_run_21 (by rw [c_21_3]; decide) (by rw [c_21_3]; decide) (by rw [c_21_3]; rfl) (by decide) ?_
        refine lv_aload_n hx hb dX7_run_83 rfl (lv_at hl 0 rfl) ?_
        refine va_get (D := D) (ci := 6) (v := .ref (ad 6)) (C := RX7) (T := TX7) (N := 6) hx hb hts in_X7_run_X7 hown hK hP 0 (wC_0 _ _ _ _ _) rfl 5 (by decide) (hts (.fieldLink RX7 53 "CallGraphs" "drawn" "LCallGraphs$DrawnRun;") (List.mem_of_getElem? (i := 1) rfl)) (fun _ h9 => h9) (fC_0_5 _ _) dX7_run_84 ?_
        obtain ⟨r_87, hg_87, hf⟩ := oc_e hf
        refine mV_rl (wd := wC ad cI cJ cZ) (σ := r_17) (As := []) (rest := []) ⟨hx, hb, hml, hown, hts⟩ hK hP hD hS (c_X2_begunTypes l D ad cI cJ cZ r_17 hg_87) (cwV 0 hts gX7_run_X2_begunTypes rfl rfl rfl hd_X2_begunTypes ⟨Nat.le_trans (Nat.le_of_ble_eq_true rfl) hR.1, Nat.le_trans (Nat.le_of_ble_eq_true rfl) hR.2⟩) rfl (wC_6 _ _ _ _ _) rfl hl.1 rfl (Nat.le_of_ble_eq_true rfl) dX7_run_87 (fun H locs hP hS => ?_)
        obtain ⟨r_90, hg_90, hf⟩ := oc_e hf
        refine mS_i (D := D) (As := [.long r_87]) (rest := []) ⟨hx, hb, hml, hown, hts⟩ hP hS (c_J13_bitCount_95d88 l r_87 hg_90) (va_cwS 1 hts gX7_run_J13_bitCount_95d88 rfl rfl rfl hd_J13_bitCount_95d88 ⟨Nat.le_trans (Nat.le_of_ble_eq_true rfl) hR.1, Nat.le_trans (Nat.le_of_ble_eq_true rfl) hR.2⟩) rfl hl.1 rfl (Nat.le_of_ble_eq_true rfl) dX7_run_90 (fun H locs hP hS => ?_)
        exact rt_i (wd := wC ad cI cJ cZ) hx hb hr hlk (Option.some.inj hf) hP hS dX7_run_93
      rw [if_neg c_21_3] at hf
      by_cases c_21_4 : v3 = 4
      · rw [if_pos c_21_4] at hf
        refine lv_tableIn (off := 73) (tgt := 94) hx hb dX7_run_21 (by rw [c_21_4]; decide) (by rw [c_21_4]; decide) (by rw [c_21_4]; rfl) (by decide) ?_
        refine lv_aload_n hx hb dX7_run_94 rfl (lv_at hl 0 rfl) ?_
        refine va_get (D := D) (ci := 6) (v := .ref (ad 6)) (C := RX7) (T := TX7) (N := 6) hx hb hts in_X7_run_X7 hown hK hP 0 (wC_0 _ _ _ _ _) rfl 5 (by decide) (hts (.fieldLink RX7 53 "CallGraphs" "drawn" "LCallGraphs$DrawnRun;") (List.mem_of_getElem? (i := 1) rfl)) (fun _ h9 => h9) (fC_0_5 _ _) dX7_run_95 ?_
        obtain ⟨r_98, hg_98, hf⟩ := oc_e hf
        refine mV_ri (wd := wC ad cI cJ cZ) (σ := r_17) (As := []) (rest := []) ⟨hx, hb, hml, hown, hts⟩ hK hP hD hS (c_X2_leftCalls l D ad cI cJ cZ r_17 hg_98) (cwV 0 hts gX7_run_X2_leftCalls rfl rfl rfl hd_X2_leftCalls ⟨Nat.le_trans (Nat.le_of_ble_eq_true rfl) hR.1, Nat.le_trans (Nat.le_of_ble_eq_true rfl) hR.2⟩) rfl (wC_6 _ _ _ _ _) rfl hl.1 rfl (Nat.le_of_ble_eq_true rfl) dX7_run_98 (fun H locs hP hS => ?_)
        exact rt_i (wd := wC ad cI cJ cZ) hx hb hr hlk (Option.some.inj hf) hP hS dX7_run_101
      rw [if_neg c_21_4] at hf
      refine lv_tableOut (tgt := 102) hx hb dX7_run_21 (by have g0 := lv_neT c_21_0 (a := 0) (by decide); have g1 := lv_neT c_21_1 (a := 1) (by decide); have g2 := lv_neT c_21_2 (a := 2) (by decide); have g3 := lv_neT c_21_3 (a := 3) (by decide); have g4 := lv_neT c_21_4 (a := 4) (by decide); omega) (by decide) ?_
      refine lv_aload_n hx hb dX7_run_102 rfl (lv_at hl 0 rfl) ?_
      refine va_get (D := D) (ci := 6) (v := .ref (ad 6)) (C := RX7) (T := TX7) (N := 6) hx hb hts in_X7_run_X7 hown hK hP 0 (wC_0 _ _ _ _ _) rfl 5 (by decide) (hts (.fieldLink RX7 53 "CallGraphs" "drawn" "LCallGraphs$DrawnRun;") (List.mem_of_getElem? (i := 1) rfl)) (fun _ h9 => h9) (fC_0_5 _ _) dX7_run_103 ?_
      obtain ⟨r_106, hg_106, hf⟩ := oc_e hf
      refine mV_ri (wd := wC ad cI cJ cZ) (σ := r_17) (As := []) (rest := []) ⟨hx, hb, hml, hown, hts⟩ hK hP hD hS (c_X2_latest l D ad cI cJ cZ r_17 hg_106) (cwV 0 hts gX7_run_X2_latest rfl rfl rfl hd_X2_latest ⟨Nat.le_trans (Nat.le_of_ble_eq_true rfl) hR.1, Nat.le_trans (Nat.le_of_ble_eq_true rfl) hR.2⟩) rfl (wC_6 _ _ _ _ _) rfl hl.1 rfl (Nat.le_of_ble_eq_true rfl) dX7_run_106 (fun H locs hP hS => ?_)
      exact rt_i (wd := wC ad cI cJ cZ) hx hb hr hlk (Option.some.inj hf) hP hS dX7_run_109
    · rw [if_neg c_6] at hf
      exact w_X7_run_9 hm hR hK hD σ hf _ _ _ hP hS (lv_sub hl [] rfl)
theorem hd_X7_run : yX7_run.cls = RX7 ∧ yX7_run.cls ≠ "java/lang/invoke/MethodHandle" ∧ yX7_run.cls ≠ "java/lang/invoke/VarHandle" ∧ (parseMethodDescriptor yX7_run.desc).map (fun d => d.parameters.length) = some 2 := by decide +kernel
set_option maxHeartbeats 4000000 in
set_option maxRecDepth 100000 in
theorem c_X7_run (l : Launch) (D : va_G) (ad : Nat → Nat) (cI cJ cZ : ClassId) (σ : SS) (v1 : Int64) (v3 : Int32) {res : Int32 × SS} (hf : p_X7_run_0 v1 v3 σ = some res) : Met l yX7_run wsX7_run ({ frames := 632, cells := 0, slots := 0, locals := 16272 } : Room) (PW D (tyw cI cJ cZ) (wC ad cI cJ cZ σ) [.ref (ad 0), .long v1, .int v3]) (va_Qi (fun (r : Int32) (u : SS) => (r, u) = res) (fun u t => va_P D vwCl (wC ad cI cJ cZ u) t.heap) (aC ad)) 0 0 (aC ad) := by
  refine Met.ofW (cc := cX7_run) (maxL := 4) (ret := (some .int)) (by decide) rfl ?_
  intro p e s m args below meth c s₁ B hml hv
  obtain ⟨rfl, hP, hK, hD0⟩ := hv
  have hD : ∀ σ, va_D (aC ad) (wC ad cI cJ cZ σ) := fun σ => wd_D hD0 (wC_map _ _ _ _ _) (wC_map _ _ _ _ _)
  have hm : mx p s m _ meth c cX7_run 4 (some .int) wsX7_run RX7 := ⟨B.exec, B.bytes, B.returns, hml, findClass_of_methodNamed B.named, atoms_spec (ws := wsX7_run) B.pre, B.notSynchronized⟩
  have hl := lv_entry ([.ref (ad 0), .long v1, .int v3]) (n := 4) (Nat.le_of_ble_eq_true rfl)
  rw [lg_entry_eq]
  generalize (lg_sl ([.ref (ad 0), .long v1, .int v3]) ++ List.replicate (4 - (lg_sl ([.ref (ad 0), .long v1, .int v3])).length) Slot.unset).toArray = ls at hl ⊢
  exact w_X7_run_0 hm ⟨Nat.le_refl _, Nat.le_refl _⟩ hK hD v1 v3 σ hf _ _ _ hP va_S.rf hl
/-! CallGraphs.callsHold()Z -/
theorem in_X7_callsHold_X7 : ∀ w ∈ u_ws RX7 TX7 6, w ∈ wsX7_callsHold := fun w h => List.mem_cons_of_mem _ (List.mem_append_left _ (List.mem_append_left _ (List.mem_append_left _ (List.mem_append_right _ h))))
def p_X7_callsHold_2 (σ : SS) : Nat → Int32 → Option (Int32)
  | 0, _ => none
  | n + 1, v1 => let k2 := p_X7_callsHold_2 σ n; oc (p_X5_size_0 σ) (fun r_7 => if r_7 ≤ v1 then some 1 else oc (p_X2_triedBy_0 σ v1) (fun r_18 => oc (p_X3_calleesOf_0 σ v1) (fun r_26 => oc (p_X0_within_0 r_18 r_26) (fun r_29 => if r_29 = 0 then some 0 else k2 (v1 + 1)))))
set_option maxHeartbeats 4000000 in
set_option maxRecDepth 100000 in
theorem w_X7_callsHold_2 {p : Program} {l : Launch} {e : Env} {R : Room} {s : State} {m : MethodId} {args : Array Value} {below : List Frame} {meth : Method} {c : Code} {D : va_G} {ad : Nat → Nat} {cI cJ cZ : ClassId} {res : Int32} (hm : mx p s m args meth c cX7_callsHold 2 (some .boolean) wsX7_callsHold RX7) (hR : 1 ≤ R.frames ∧ 23 ≤ R.locals) (hK : va_K D vwCl (tyw cI cJ cZ) s) (hD : ∀ σ, va_D (aC ad) (wC ad cI cJ cZ σ)) (σ : SS) : ∀ (n : Nat) (v1 : Int32), p_X7_callsHold_2 σ n v1 = some res → ∀ (H : Heap) (locs : List Loc) (ls : Array Slot), va_P D vwCl (wC ad cI cJ cZ σ) H → va_S (aC ad) s.heap H locs → lv_has ls 2 [(0, .ref (ad 0)), (1, .int v1)] → W p l e R s m args below meth c H locs 0 0 (MQ below (va_Qi (fun (r : Int32) (u : SS) => r = res ∧ u = σ) (fun u t => va_P D vwCl (wC ad cI cJ cZ u) t.heap) (aC ad)) args s 0 0 (aC ad)) (F0 m 2 ls []) := by
  obtain ⟨hx, hb, hr, hml, hown, hts, hlk⟩ := id hm
  intro n
  induction n with
  | zero =>
    intro _ hf
    cases hf
  | succ n hk2 =>
    intro v1 hf H locs ls hP hS hl
    rw [p_X7_callsHold_2] at hf
    try dsimp only at hf
    refine lv_iload_n hx hb dX7_callsHold_2 rfl (lv_at hl 1 rfl) ?_
    refine lv_aload_n hx hb dX7_callsHold_3 rfl (lv_at hl 0 rfl) ?_
    refine va_get (D := D) (ci := 6) (v := .ref (ad 4)) (C := RX7) (T := TX7) (N := 6) hx hb hts in_X7_callsHold_X7 hown hK hP 0 (wC_0 _ _ _ _ _) rfl 3 (by decide) (hts (.fieldLink RX7 37 "CallGraphs" "ops" "LCallGraphs$Ops;") (List.mem_of_getElem? (i := 1) rfl)) (fun _ h9 => h9) (fC_0_3 _ _) dX7_callsHold_4 ?_
    obtain ⟨r_7, hg_7, hf⟩ := oc_e hf
    refine mV_ri (wd := wC ad cI cJ cZ) (σ := σ) (As := []) (rest := [.int v1]) ⟨hx, hb, hml, hown, hts⟩ hK hP hD hS (c_X5_size l D ad cI cJ cZ σ hg_7) (cwV 0 hts gX7_callsHold_X5_size rfl rfl rfl hd_X5_size ⟨Nat.le_trans (Nat.le_of_ble_eq_true rfl) hR.1, Nat.le_trans (Nat.le_of_ble_eq_true rfl) hR.2⟩) rfl (wC_4 _ _ _ _ _) rfl hl.1 rfl (Nat.le_of_ble_eq_true rfl) dX7_callsHold_7 (fun H locs hP hS => ?_)
    refine lv_icmp_ge (tgt := 43) hx hb dX7_callsHold_10 (by decide) (fun c_10 => ?_) (fun c_10 => ?_)
    · rw [if_pos c_10] at hf
      refine lv_iconst (v := 1) hx hb dX7_callsHold_43 (by decide) ?_
      exact rt_z (wd := wC ad cI cJ cZ) hx hb hr hlk (Or.inr rfl) ⟨Option.some.inj hf, rfl⟩ hP hS dX7_callsHold_44
    · rw [if_neg c_10] at hf
      refine lv_aload_n hx hb dX7_callsHold_13 rfl (lv_at hl 0 rfl) ?_
      refine va_get (D := D) (ci := 6) (v := .ref (ad 6)) (C := RX7) (T := TX7) (N := 6) hx hb hts in_X7_callsHold_X7 hown hK hP 0 (wC_0 _ _ _ _ _) rfl 5 (by decide) (hts (.fieldLink RX7 53 "CallGraphs" "drawn" "LCallGraphs$DrawnRun;") (List.mem_of_getElem? (i := 2) rfl)) (fun _ h9 => h9) (fC_0_5 _ _) dX7_callsHold_14 ?_
      refine lv_iload_n hx hb dX7_callsHold_17 rfl (lv_at hl 1 rfl) ?_
      obtain ⟨r_18, hg_18, hf⟩ := oc_e hf
      refine mV_rl (wd := wC ad cI cJ cZ) (σ := σ) (As := [.int v1]) (rest := []) ⟨hx, hb, hml, hown, hts⟩ hK hP hD hS (c_X2_triedBy l D ad cI cJ cZ σ v1 hg_18) (cwV 1 hts gX7_callsHold_X2_triedBy rfl rfl rfl hd_X2_triedBy ⟨Nat.le_trans (Nat.le_of_ble_eq_true rfl) hR.1, Nat.le_trans (Nat.le_of_ble_eq_true rfl) hR.2⟩) rfl (wC_6 _ _ _ _ _) rfl hl.1 rfl (Nat.le_of_ble_eq_true rfl) dX7_callsHold_18 (fun H locs hP hS => ?_)
      refine lv_aload_n hx hb dX7_callsHold_21 rfl (lv_at hl 0 rfl) ?_
      refine va_get (D := D) (ci := 6) (v := .ref (ad 5)) (C := RX7) (T := TX7) (N := 6) hx hb hts in_X7_callsHold_X7 hown hK hP 0 (wC_0 _ _ _ _ _) rfl 4 (by decide) (hts (.fieldLink RX7 46 "CallGraphs" "graph" "LCallGraphs$Graph;") (List.mem_of_getElem? (i := 3) rfl)) (fun _ h9 => h9) (fC_0_4 _ _) dX7_callsHold_22 ?_
      refine lv_iload_n hx hb dX7_callsHold_25 rfl (lv_at hl 1 rfl) ?_
      obtain ⟨r_26, hg_26, hf⟩ := oc_e hf
      refine mV_rl (wd := wC ad cI cJ cZ) (σ := σ) (As := [.int v1]) (rest := [.long r_18]) ⟨hx, hb, hml, hown, hts⟩ hK hP hD hS (c_X3_calleesOf l D ad cI cJ cZ σ v1 hg_26) (cwV 1 hts gX7_callsHold_X3_calleesOf rfl rfl rfl hd_X3_calleesOf ⟨Nat.le_trans (Nat.le_of_ble_eq_true rfl) hR.1, Nat.le_trans (Nat.le_of_ble_eq_true rfl) hR.2⟩) rfl (wC_5 _ _ _ _ _) rfl hl.1 rfl (Nat.le_of_ble_eq_true rfl) dX7_callsHold_26 (fun H locs hP hS => ?_)
      obtain ⟨r_29, hg_29, hf⟩ := oc_e hf
      refine mS_i (D := D) (As := [.long r_18, .long r_26]) (rest := []) ⟨hx, hb, hml, hown, hts⟩ hP hS (c_X0_within l r_18 r_26 hg_29) (va_cwS 2 hts gX7_callsHold_X0_within rfl rfl rfl hd_X0_within ⟨Nat.le_trans (Nat.le_of_ble_eq_true rfl) hR.1, Nat.le_trans (Nat.le_of_ble_eq_true rfl) hR.2⟩) rfl hl.1 rfl (Nat.le_of_ble_eq_true rfl) dX7_callsHold_29 (fun H locs hP hS => ?_)
      refine lv_if_ne (tgt := 37) hx hb dX7_callsHold_32 (by decide) (fun c_32 => ?_) (fun c_32 => ?_)
      · rw [if_neg c_32] at hf
        refine lv_iinc (v := (v1 + 1)) (lv' := [(1, .int (v1 + 1)), (0, .ref (ad 0))]) hx hb dX7_callsHold_37 hl (k := 1) rfl rfl (by decide) rfl (fun ls hl => ?_)
        refine lv_goto (tgt := 2) hx hb dX7_callsHold_40 (by decide) ?_
        exact hk2 (v1 + 1) hf _ _ _ hP hS (lv_sub hl [1, 0] rfl)
      · rw [if_pos c_32] at hf
        refine lv_iconst (v := 0) hx hb dX7_callsHold_35 (by decide) ?_
        exact rt_z (wd := wC ad cI cJ cZ) hx hb hr hlk (Or.inl rfl) ⟨Option.some.inj hf, rfl⟩ hP hS dX7_callsHold_36
def p_X7_callsHold_0 (σ : SS) : Option (Int32) := p_X7_callsHold_2 σ 100000 0
set_option maxHeartbeats 4000000 in
set_option maxRecDepth 100000 in
theorem w_X7_callsHold_0 {p : Program} {l : Launch} {e : Env} {R : Room} {s : State} {m : MethodId} {args : Array Value} {below : List Frame} {meth : Method} {c : Code} {D : va_G} {ad : Nat → Nat} {cI cJ cZ : ClassId} {res : Int32} (hm : mx p s m args meth c cX7_callsHold 2 (some .boolean) wsX7_callsHold RX7) (hR : 1 ≤ R.frames ∧ 23 ≤ R.locals) (hK : va_K D vwCl (tyw cI cJ cZ) s) (hD : ∀ σ, va_D (aC ad) (wC ad cI cJ cZ σ)) (σ : SS) (hf : p_X7_callsHold_0 σ = some res) (H : Heap) (locs : List Loc) (ls : Array Slot) (hP : va_P D vwCl (wC ad cI cJ cZ σ) H) (hS : va_S (aC ad) s.heap H locs) (hl : lv_has ls 2 [(0, .ref (ad 0))]) : W p l e R s m args below meth c H locs 0 0 (MQ below (va_Qi (fun (r : Int32) (u : SS) => r = res ∧ u = σ) (fun u t => va_P D vwCl (wC ad cI cJ cZ u) t.heap) (aC ad)) args s 0 0 (aC ad)) (F0 m 0 ls []) := by
  obtain ⟨hx, hb, hr, hml, hown, hts, hlk⟩ := id hm
  unfold p_X7_callsHold_0 at hf
  refine lv_iconst (v := 0) hx hb dX7_callsHold_0 (by decide) ?_
  refine lv_istore_n (lv' := [(1, .int 0), (0, .ref (ad 0))]) hx hb dX7_callsHold_1 rfl hl (by decide) rfl (fun ls hl => ?_)
  exact w_X7_callsHold_2 hm hR hK hD σ 100000 0 hf _ _ _ hP hS (lv_sub hl [1, 0] rfl)
theorem hd_X7_callsHold : yX7_callsHold.cls = RX7 ∧ yX7_callsHold.cls ≠ "java/lang/invoke/MethodHandle" ∧ yX7_callsHold.cls ≠ "java/lang/invoke/VarHandle" ∧ (parseMethodDescriptor yX7_callsHold.desc).map (fun d => d.parameters.length) = some 0 := by decide +kernel
set_option maxHeartbeats 4000000 in
set_option maxRecDepth 100000 in
theorem c_X7_callsHold (l : Launch) (D : va_G) (ad : Nat → Nat) (cI cJ cZ : ClassId) (σ : SS) {res : Int32} (hf : p_X7_callsHold_0 σ = some res) : Met l yX7_callsHold wsX7_callsHold ({ frames := 1, cells := 0, slots := 0, locals := 23 } : Room) (PW D (tyw cI cJ cZ) (wC ad cI cJ cZ σ) [.ref (ad 0)]) (va_Qi (fun (r : Int32) (u : SS) => r = res ∧ u = σ) (fun u t => va_P D vwCl (wC ad cI cJ cZ u) t.heap) (aC ad)) 0 0 (aC ad) := by
  refine Met.ofW (cc := cX7_callsHold) (maxL := 2) (ret := (some .boolean)) (by decide) rfl ?_
  intro p e s m args below meth c s₁ B hml hv
  obtain ⟨rfl, hP, hK, hD0⟩ := hv
  have hD : ∀ σ, va_D (aC ad) (wC ad cI cJ cZ σ) := fun σ => wd_D hD0 (wC_map _ _ _ _ _) (wC_map _ _ _ _ _)
  have hm : mx p s m _ meth c cX7_callsHold 2 (some .boolean) wsX7_callsHold RX7 := ⟨B.exec, B.bytes, B.returns, hml, findClass_of_methodNamed B.named, atoms_spec (ws := wsX7_callsHold) B.pre, B.notSynchronized⟩
  have hl := lv_entry ([.ref (ad 0)]) (n := 2) (Nat.le_of_ble_eq_true rfl)
  rw [lg_entry_eq]
  generalize (lg_sl ([.ref (ad 0)]) ++ List.replicate (2 - (lg_sl ([.ref (ad 0)])).length) Slot.unset).toArray = ls at hl ⊢
  exact w_X7_callsHold_0 hm ⟨Nat.le_refl _, Nat.le_refl _⟩ hK hD σ hf _ _ _ hP va_S.rf hl
/-! CallGraphs.holds(J)Z -/
theorem in_X7_holds_X7 : ∀ w ∈ u_ws RX7 TX7 6, w ∈ wsX7_holds := fun w h => List.mem_cons_of_mem _ (List.mem_append_left _ (List.mem_append_left _ (List.mem_append_left _ (List.mem_append_left _ (List.mem_append_left _ (List.mem_append_left _ (List.mem_append_right _ h)))))))
def p_X7_holds_87 (t0 : Int32) (σ : SS) : Option (Int32 × SS) := ob t0 (some (t0, σ))
set_option maxHeartbeats 4000000 in
set_option maxRecDepth 100000 in
theorem w_X7_holds_87 {p : Program} {l : Launch} {e : Env} {R : Room} {s : State} {m : MethodId} {args : Array Value} {below : List Frame} {meth : Method} {c : Code} {D : va_G} {ad : Nat → Nat} {cI cJ cZ : ClassId} {res : Int32 × SS} (hm : mx p s m args meth c cX7_holds 3 (some .boolean) wsX7_holds RX7) (hR : 632 ≤ R.frames ∧ 16272 ≤ R.locals) (hK : va_K D vwCl (tyw cI cJ cZ) s) (hD : ∀ σ, va_D (aC ad) (wC ad cI cJ cZ σ)) (t0 : Int32) (σ : SS) (hf : p_X7_holds_87 t0 σ = some res) (H : Heap) (locs : List Loc) (ls : Array Slot) (hP : va_P D vwCl (wC ad cI cJ cZ σ) H) (hS : va_S (aC ad) s.heap H locs) (hl : lv_has ls 3 []) : W p l e R s m args below meth c H locs 0 0 (MQ below (va_Qi (fun (r : Int32) (u : SS) => (r, u) = res) (fun u t => va_P D vwCl (wC ad cI cJ cZ u) t.heap) (aC ad)) args s 0 0 (aC ad)) (F0 m 87 ls [.int t0]) := by
  obtain ⟨hx, hb, hr, hml, hown, hts, hlk⟩ := id hm
  unfold p_X7_holds_87 at hf
  obtain ⟨h_87, hf⟩ := ob_e hf
  exact rt_z (wd := wC ad cI cJ cZ) hx hb hr hlk h_87 (Option.some.inj hf) hP hS dX7_holds_87
def p_X7_holds_86 (σ : SS) : Option (Int32 × SS) := p_X7_holds_87 0 σ
set_option maxHeartbeats 4000000 in
set_option maxRecDepth 100000 in
theorem w_X7_holds_86 {p : Program} {l : Launch} {e : Env} {R : Room} {s : State} {m : MethodId} {args : Array Value} {below : List Frame} {meth : Method} {c : Code} {D : va_G} {ad : Nat → Nat} {cI cJ cZ : ClassId} {res : Int32 × SS} (hm : mx p s m args meth c cX7_holds 3 (some .boolean) wsX7_holds RX7) (hR : 632 ≤ R.frames ∧ 16272 ≤ R.locals) (hK : va_K D vwCl (tyw cI cJ cZ) s) (hD : ∀ σ, va_D (aC ad) (wC ad cI cJ cZ σ)) (σ : SS) (hf : p_X7_holds_86 σ = some res) (H : Heap) (locs : List Loc) (ls : Array Slot) (hP : va_P D vwCl (wC ad cI cJ cZ σ) H) (hS : va_S (aC ad) s.heap H locs) (hl : lv_has ls 3 []) : W p l e R s m args below meth c H locs 0 0 (MQ below (va_Qi (fun (r : Int32) (u : SS) => (r, u) = res) (fun u t => va_P D vwCl (wC ad cI cJ cZ u) t.heap) (aC ad)) args s 0 0 (aC ad)) (F0 m 86 ls []) := by
  obtain ⟨hx, hb, hr, hml, hown, hts, hlk⟩ := id hm
  unfold p_X7_holds_86 at hf
  refine lv_iconst (v := 0) hx hb dX7_holds_86 (by decide) ?_
  exact w_X7_holds_87 hm hR hK hD 0 σ hf _ _ _ hP hS (lv_sub hl [] rfl)
def p_X7_holds_0 (v1 : Int64) (σ : SS) : Option (Int32 × SS) := oc (p_X3_refresh_0 σ) (fun r_4 => oc (p_X2_play_0 v1 r_4) (fun r_12 => oc (p_X2_ran_0 r_12) (fun r_19 => oc (p_X3_reached_0 r_12) (fun r_26 => oc (p_X0_within_0 r_19 r_26) (fun r_29 => if r_29 = 0 then p_X7_holds_86 r_12 else oc (p_X2_begunTypes_0 r_12) (fun r_39 => oc (p_X3_begunTypes_0 r_12) (fun r_46 => oc (p_X0_within_0 r_39 r_46) (fun r_49 => if r_49 = 0 then p_X7_holds_86 r_12 else oc (p_X2_pooledClasses_0 r_12) (fun r_59 => oc (p_X3_madeClasses_0 r_12) (fun r_66 => oc (p_X0_within_0 r_59 r_66) (fun r_69 => if r_69 = 0 then p_X7_holds_86 r_12 else oc (p_X7_callsHold_0 r_12) (fun r_76 => if r_76 = 0 then p_X7_holds_86 r_12 else p_X7_holds_87 1 r_12))))))))))))
set_option maxHeartbeats 4000000 in
set_option maxRecDepth 100000 in
theorem w_X7_holds_0 {p : Program} {l : Launch} {e : Env} {R : Room} {s : State} {m : MethodId} {args : Array Value} {below : List Frame} {meth : Method} {c : Code} {D : va_G} {ad : Nat → Nat} {cI cJ cZ : ClassId} {res : Int32 × SS} (hm : mx p s m args meth c cX7_holds 3 (some .boolean) wsX7_holds RX7) (hR : 632 ≤ R.frames ∧ 16272 ≤ R.locals) (hK : va_K D vwCl (tyw cI cJ cZ) s) (hD : ∀ σ, va_D (aC ad) (wC ad cI cJ cZ σ)) (v1 : Int64) (σ : SS) (hf : p_X7_holds_0 v1 σ = some res) (H : Heap) (locs : List Loc) (ls : Array Slot) (hP : va_P D vwCl (wC ad cI cJ cZ σ) H) (hS : va_S (aC ad) s.heap H locs) (hl : lv_has ls 3 [(0, .ref (ad 0)), (1, .long v1)]) : W p l e R s m args below meth c H locs 0 0 (MQ below (va_Qi (fun (r : Int32) (u : SS) => (r, u) = res) (fun u t => va_P D vwCl (wC ad cI cJ cZ u) t.heap) (aC ad)) args s 0 0 (aC ad)) (F0 m 0 ls []) := by
  obtain ⟨hx, hb, hr, hml, hown, hts, hlk⟩ := id hm
  unfold p_X7_holds_0 at hf
  refine lv_aload_n hx hb dX7_holds_0 rfl (lv_at hl 0 rfl) ?_
  refine va_get (D := D) (ci := 6) (v := .ref (ad 5)) (C := RX7) (T := TX7) (N := 6) hx hb hts in_X7_holds_X7 hown hK hP 0 (wC_0 _ _ _ _ _) rfl 4 (by decide) (hts (.fieldLink RX7 46 "CallGraphs" "graph" "LCallGraphs$Graph;") (List.mem_of_getElem? (i := 1) rfl)) (fun _ h9 => h9) (fC_0_4 _ _) dX7_holds_1 ?_
  obtain ⟨r_4, hg_4, hf⟩ := oc_e hf
  refine mV_wv (wd := wC ad cI cJ cZ) (σ := σ) (As := []) (rest := []) ⟨hx, hb, hml, hown, hts⟩ hK hP hD hS (c_X3_refresh l D ad cI cJ cZ σ hg_4) (cwV 0 hts gX7_holds_X3_refresh rfl rfl rfl hd_X3_refresh ⟨Nat.le_trans (Nat.le_of_ble_eq_true rfl) hR.1, Nat.le_trans (Nat.le_of_ble_eq_true rfl) hR.2⟩) rfl (wC_5 _ _ _ _ _) rfl hl.1 rfl (Nat.le_of_ble_eq_true rfl) dX7_holds_4 (fun H locs hP hS => ?_)
  refine lv_aload_n hx hb dX7_holds_7 rfl (lv_at hl 0 rfl) ?_
  refine va_get (D := D) (ci := 6) (v := .ref (ad 6)) (C := RX7) (T := TX7) (N := 6) hx hb hts in_X7_holds_X7 hown hK hP 0 (wC_0 _ _ _ _ _) rfl 5 (by decide) (hts (.fieldLink RX7 53 "CallGraphs" "drawn" "LCallGraphs$DrawnRun;") (List.mem_of_getElem? (i := 2) rfl)) (fun _ h9 => h9) (fC_0_5 _ _) dX7_holds_8 ?_
  refine lv_lload_n hx hb dX7_holds_11 rfl (lv_at hl 1 rfl) ?_
  obtain ⟨r_12, hg_12, hf⟩ := oc_e hf
  refine mV_wv (wd := wC ad cI cJ cZ) (σ := r_4) (As := [.long v1]) (rest := []) ⟨hx, hb, hml, hown, hts⟩ hK hP hD hS (c_X2_play l D ad cI cJ cZ r_4 v1 hg_12) (cwV 1 hts gX7_holds_X2_play rfl rfl rfl hd_X2_play ⟨Nat.le_trans (Nat.le_of_ble_eq_true rfl) hR.1, Nat.le_trans (Nat.le_of_ble_eq_true rfl) hR.2⟩) rfl (wC_6 _ _ _ _ _) rfl hl.1 rfl (Nat.le_of_ble_eq_true rfl) dX7_holds_12 (fun H locs hP hS => ?_)
  refine lv_aload_n hx hb dX7_holds_15 rfl (lv_at hl 0 rfl) ?_
  refine va_get (D := D) (ci := 6) (v := .ref (ad 6)) (C := RX7) (T := TX7) (N := 6) hx hb hts in_X7_holds_X7 hown hK hP 0 (wC_0 _ _ _ _ _) rfl 5 (by decide) (hts (.fieldLink RX7 53 "CallGraphs" "drawn" "LCallGraphs$DrawnRun;") (List.mem_of_getElem? (i := 2) rfl)) (fun _ h9 => h9) (fC_0_5 _ _) dX7_holds_16 ?_
  obtain ⟨r_19, hg_19, hf⟩ := oc_e hf
  refine mV_rl (wd := wC ad cI cJ cZ) (σ := r_12) (As := []) (rest := []) ⟨hx, hb, hml, hown, hts⟩ hK hP hD hS (c_X2_ran l D ad cI cJ cZ r_12 hg_19) (cwV 0 hts gX7_holds_X2_ran rfl rfl rfl hd_X2_ran ⟨Nat.le_trans (Nat.le_of_ble_eq_true rfl) hR.1, Nat.le_trans (Nat.le_of_ble_eq_true rfl) hR.2⟩) rfl (wC_6 _ _ _ _ _) rfl hl.1 rfl (Nat.le_of_ble_eq_true rfl) dX7_holds_19 (fun H locs hP hS => ?_)
  refine lv_aload_n hx hb dX7_holds_22 rfl (lv_at hl 0 rfl) ?_
  refine va_get (D := D) (ci := 6) (v := .ref (ad 5)) (C := RX7) (T := TX7) (N := 6) hx hb hts in_X7_holds_X7 hown hK hP 0 (wC_0 _ _ _ _ _) rfl 4 (by decide) (hts (.fieldLink RX7 46 "CallGraphs" "graph" "LCallGraphs$Graph;") (List.mem_of_getElem? (i := 1) rfl)) (fun _ h9 => h9) (fC_0_4 _ _) dX7_holds_23 ?_
  obtain ⟨r_26, hg_26, hf⟩ := oc_e hf
  refine mV_rl (wd := wC ad cI cJ cZ) (σ := r_12) (As := []) (rest := [.long r_19]) ⟨hx, hb, hml, hown, hts⟩ hK hP hD hS (c_X3_reached l D ad cI cJ cZ r_12 hg_26) (cwV 0 hts gX7_holds_X3_reached rfl rfl rfl hd_X3_reached ⟨Nat.le_trans (Nat.le_of_ble_eq_true rfl) hR.1, Nat.le_trans (Nat.le_of_ble_eq_true rfl) hR.2⟩) rfl (wC_5 _ _ _ _ _) rfl hl.1 rfl (Nat.le_of_ble_eq_true rfl) dX7_holds_26 (fun H locs hP hS => ?_)
  obtain ⟨r_29, hg_29, hf⟩ := oc_e hf
  refine mS_i (D := D) (As := [.long r_19, .long r_26]) (rest := []) ⟨hx, hb, hml, hown, hts⟩ hP hS (c_X0_within l r_19 r_26 hg_29) (va_cwS 2 hts gX7_holds_X0_within rfl rfl rfl hd_X0_within ⟨Nat.le_trans (Nat.le_of_ble_eq_true rfl) hR.1, Nat.le_trans (Nat.le_of_ble_eq_true rfl) hR.2⟩) rfl hl.1 rfl (Nat.le_of_ble_eq_true rfl) dX7_holds_29 (fun H locs hP hS => ?_)
  refine lv_if_eq (tgt := 86) hx hb dX7_holds_32 (by decide) (fun c_32 => ?_) (fun c_32 => ?_)
  · rw [if_pos c_32] at hf
    exact w_X7_holds_86 hm hR hK hD r_12 hf _ _ _ hP hS (lv_sub hl [] rfl)
  · rw [if_neg c_32] at hf
    refine lv_aload_n hx hb dX7_holds_35 rfl (lv_at hl 0 rfl) ?_
    refine va_get (D := D) (ci := 6) (v := .ref (ad 6)) (C := RX7) (T := TX7) (N := 6) hx hb hts in_X7_holds_X7 hown hK hP 0 (wC_0 _ _ _ _ _) rfl 5 (by decide) (hts (.fieldLink RX7 53 "CallGraphs" "drawn" "LCallGraphs$DrawnRun;") (List.mem_of_getElem? (i := 2) rfl)) (fun _ h9 => h9) (fC_0_5 _ _) dX7_holds_36 ?_
    obtain ⟨r_39, hg_39, hf⟩ := oc_e hf
    refine mV_rl (wd := wC ad cI cJ cZ) (σ := r_12) (As := []) (rest := []) ⟨hx, hb, hml, hown, hts⟩ hK hP hD hS (c_X2_begunTypes l D ad cI cJ cZ r_12 hg_39) (cwV 0 hts gX7_holds_X2_begunTypes rfl rfl rfl hd_X2_begunTypes ⟨Nat.le_trans (Nat.le_of_ble_eq_true rfl) hR.1, Nat.le_trans (Nat.le_of_ble_eq_true rfl) hR.2⟩) rfl (wC_6 _ _ _ _ _) rfl hl.1 rfl (Nat.le_of_ble_eq_true rfl) dX7_holds_39 (fun H locs hP hS => ?_)
    refine lv_aload_n hx hb dX7_holds_42 rfl (lv_at hl 0 rfl) ?_
    refine va_get (D := D) (ci := 6) (v := .ref (ad 5)) (C := RX7) (T := TX7) (N := 6) hx hb hts in_X7_holds_X7 hown hK hP 0 (wC_0 _ _ _ _ _) rfl 4 (by decide) (hts (.fieldLink RX7 46 "CallGraphs" "graph" "LCallGraphs$Graph;") (List.mem_of_getElem? (i := 1) rfl)) (fun _ h9 => h9) (fC_0_4 _ _) dX7_holds_43 ?_
    obtain ⟨r_46, hg_46, hf⟩ := oc_e hf
    refine mV_rl (wd := wC ad cI cJ cZ) (σ := r_12) (As := []) (rest := [.long r_39]) ⟨hx, hb, hml, hown, hts⟩ hK hP hD hS (c_X3_begunTypes l D ad cI cJ cZ r_12 hg_46) (cwV 0 hts gX7_holds_X3_begunTypes rfl rfl rfl hd_X3_begunTypes ⟨Nat.le_trans (Nat.le_of_ble_eq_true rfl) hR.1, Nat.le_trans (Nat.le_of_ble_eq_true rfl) hR.2⟩) rfl (wC_5 _ _ _ _ _) rfl hl.1 rfl (Nat.le_of_ble_eq_true rfl) dX7_holds_46 (fun H locs hP hS => ?_)
    obtain ⟨r_49, hg_49, hf⟩ := oc_e hf
    refine mS_i (D := D) (As := [.long r_39, .long r_46]) (rest := []) ⟨hx, hb, hml, hown, hts⟩ hP hS (c_X0_within l r_39 r_46 hg_49) (va_cwS 2 hts gX7_holds_X0_within rfl rfl rfl hd_X0_within ⟨Nat.le_trans (Nat.le_of_ble_eq_true rfl) hR.1, Nat.le_trans (Nat.le_of_ble_eq_true rfl) hR.2⟩) rfl hl.1 rfl (Nat.le_of_ble_eq_true rfl) dX7_holds_49 (fun H locs hP hS => ?_)
    refine lv_if_eq (tgt := 86) hx hb dX7_holds_52 (by decide) (fun c_52 => ?_) (fun c_52 => ?_)
    · rw [if_pos c_52] at hf
      exact w_X7_holds_86 hm hR hK hD r_12 hf _ _ _ hP hS (lv_sub hl [] rfl)
    · rw [if_neg c_52] at hf
      refine lv_aload_n hx hb dX7_holds_55 rfl (lv_at hl 0 rfl) ?_
      refine va_get (D := D) (ci := 6) (v := .ref (ad 6)) (C := RX7) (T := TX7) (N := 6) hx hb hts in_X7_holds_X7 hown hK hP 0 (wC_0 _ _ _ _ _) rfl 5 (by decide) (hts (.fieldLink RX7 53 "CallGraphs" "drawn" "LCallGraphs$DrawnRun;") (List.mem_of_getElem? (i := 2) rfl)) (fun _ h9 => h9) (fC_0_5 _ _) dX7_holds_56 ?_
      obtain ⟨r_59, hg_59, hf⟩ := oc_e hf
      refine mV_rl (wd := wC ad cI cJ cZ) (σ := r_12) (As := []) (rest := []) ⟨hx, hb, hml, hown, hts⟩ hK hP hD hS (c_X2_pooledClasses l D ad cI cJ cZ r_12 hg_59) (cwV 0 hts gX7_holds_X2_pooledClasses rfl rfl rfl hd_X2_pooledClasses ⟨Nat.le_trans (Nat.le_of_ble_eq_true rfl) hR.1, Nat.le_trans (Nat.le_of_ble_eq_true rfl) hR.2⟩) rfl (wC_6 _ _ _ _ _) rfl hl.1 rfl (Nat.le_of_ble_eq_true rfl) dX7_holds_59 (fun H locs hP hS => ?_)
      refine lv_aload_n hx hb dX7_holds_62 rfl (lv_at hl 0 rfl) ?_
      refine va_get (D := D) (ci := 6) (v := .ref (ad 5)) (C := RX7) (T := TX7) (N := 6) hx hb hts in_X7_holds_X7 hown hK hP 0 (wC_0 _ _ _ _ _) rfl 4 (by decide) (hts (.fieldLink RX7 46 "CallGraphs" "graph" "LCallGraphs$Graph;") (List.mem_of_getElem? (i := 1) rfl)) (fun _ h9 => h9) (fC_0_4 _ _) dX7_holds_63 ?_
      obtain ⟨r_66, hg_66, hf⟩ := oc_e hf
      refine mV_rl (wd := wC ad cI cJ cZ) (σ := r_12) (As := []) (rest := [.long r_59]) ⟨hx, hb, hml, hown, hts⟩ hK hP hD hS (c_X3_madeClasses l D ad cI cJ cZ r_12 hg_66) (cwV 0 hts gX7_holds_X3_madeClasses rfl rfl rfl hd_X3_madeClasses ⟨Nat.le_trans (Nat.le_of_ble_eq_true rfl) hR.1, Nat.le_trans (Nat.le_of_ble_eq_true rfl) hR.2⟩) rfl (wC_5 _ _ _ _ _) rfl hl.1 rfl (Nat.le_of_ble_eq_true rfl) dX7_holds_66 (fun H locs hP hS => ?_)
      obtain ⟨r_69, hg_69, hf⟩ := oc_e hf
      refine mS_i (D := D) (As := [.long r_59, .long r_66]) (rest := []) ⟨hx, hb, hml, hown, hts⟩ hP hS (c_X0_within l r_59 r_66 hg_69) (va_cwS 2 hts gX7_holds_X0_within rfl rfl rfl hd_X0_within ⟨Nat.le_trans (Nat.le_of_ble_eq_true rfl) hR.1, Nat.le_trans (Nat.le_of_ble_eq_true rfl) hR.2⟩) rfl hl.1 rfl (Nat.le_of_ble_eq_true rfl) dX7_holds_69 (fun H locs hP hS => ?_)
      refine lv_if_eq (tgt := 86) hx hb dX7_holds_72 (by decide) (fun c_72 => ?_) (fun c_72 => ?_)
      · rw [if_pos c_72] at hf
        exact w_X7_holds_86 hm hR hK hD r_12 hf _ _ _ hP hS (lv_sub hl [] rfl)
      · rw [if_neg c_72] at hf
        refine lv_aload_n hx hb dX7_holds_75 rfl (lv_at hl 0 rfl) ?_
        obtain ⟨r_76, hg_76, hf⟩ := oc_e hf
        refine mV_ri (wd := wC ad cI cJ cZ) (σ := r_12) (As := []) (rest := []) ⟨hx, hb, hml, hown, hts⟩ hK hP hD hS (c_X7_callsHold l D ad cI cJ cZ r_12 hg_76) (cwV 0 hts gX7_holds_X7_callsHold rfl rfl rfl hd_X7_callsHold ⟨Nat.le_trans (Nat.le_of_ble_eq_true rfl) hR.1, Nat.le_trans (Nat.le_of_ble_eq_true rfl) hR.2⟩) rfl (wC_0 _ _ _ _ _) rfl hl.1 rfl (Nat.le_of_ble_eq_true rfl) dX7_holds_76 (fun H locs hP hS => ?_)
        refine lv_if_eq (tgt := 86) hx hb dX7_holds_79 (by decide) (fun c_79 => ?_) (fun c_79 => ?_)
        · rw [if_pos c_79] at hf
          exact w_X7_holds_86 hm hR hK hD r_12 hf _ _ _ hP hS (lv_sub hl [] rfl)
        · rw [if_neg c_79] at hf
          refine lv_iconst (v := 1) hx hb dX7_holds_82 (by decide) ?_
          refine lv_goto (tgt := 87) hx hb dX7_holds_83 (by decide) ?_
          exact w_X7_holds_87 hm hR hK hD 1 r_12 hf _ _ _ hP hS (lv_sub hl [] rfl)
theorem hd_X7_holds : yX7_holds.cls = RX7 ∧ yX7_holds.cls ≠ "java/lang/invoke/MethodHandle" ∧ yX7_holds.cls ≠ "java/lang/invoke/VarHandle" ∧ (parseMethodDescriptor yX7_holds.desc).map (fun d => d.parameters.length) = some 1 := by decide +kernel
set_option maxHeartbeats 4000000 in
set_option maxRecDepth 100000 in
theorem c_X7_holds (l : Launch) (D : va_G) (ad : Nat → Nat) (cI cJ cZ : ClassId) (σ : SS) (v1 : Int64) {res : Int32 × SS} (hf : p_X7_holds_0 v1 σ = some res) : Met l yX7_holds wsX7_holds ({ frames := 632, cells := 0, slots := 0, locals := 16272 } : Room) (PW D (tyw cI cJ cZ) (wC ad cI cJ cZ σ) [.ref (ad 0), .long v1]) (va_Qi (fun (r : Int32) (u : SS) => (r, u) = res) (fun u t => va_P D vwCl (wC ad cI cJ cZ u) t.heap) (aC ad)) 0 0 (aC ad) := by
  refine Met.ofW (cc := cX7_holds) (maxL := 3) (ret := (some .boolean)) (by decide) rfl ?_
  intro p e s m args below meth c s₁ B hml hv
  obtain ⟨rfl, hP, hK, hD0⟩ := hv
  have hD : ∀ σ, va_D (aC ad) (wC ad cI cJ cZ σ) := fun σ => wd_D hD0 (wC_map _ _ _ _ _) (wC_map _ _ _ _ _)
  have hm : mx p s m _ meth c cX7_holds 3 (some .boolean) wsX7_holds RX7 := ⟨B.exec, B.bytes, B.returns, hml, findClass_of_methodNamed B.named, atoms_spec (ws := wsX7_holds) B.pre, B.notSynchronized⟩
  have hl := lv_entry ([.ref (ad 0), .long v1]) (n := 3) (Nat.le_of_ble_eq_true rfl)
  rw [lg_entry_eq]
  generalize (lg_sl ([.ref (ad 0), .long v1]) ++ List.replicate (3 - (lg_sl ([.ref (ad 0), .long v1])).length) Slot.unset).toArray = ls at hl ⊢
  exact w_X7_holds_0 hm ⟨Nat.le_refl _, Nat.le_refl _⟩ hK hD v1 σ hf _ _ _ hP va_S.rf hl
