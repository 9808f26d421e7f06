/-! CallGraphsModel.findComes()V -/
theorem in_X8_findComes_X8 : ∀ w ∈ u_ws RX8 TX8 50, w ∈ wsX8_findComes := fun w h => List.mem_cons_of_mem _ (List.mem_append_right _ h)
def p_X8_findComes_79 (k2 : Int32 → SS → Option (SS)) (k12 : Int32 → Int32 → SS → Option (SS)) (k25 : Int32 → Int32 → Int32 → Int32 → SS → Option (SS)) (v1 : Int32) (v2 : Int32) (v4 : Int32) (t0 : Int32) (σ : SS) : Option (SS) := k25 v1 v2 t0 (v4 + 1) σ
set_option maxHeartbeats 4000000 in
set_option maxRecDepth 100000 in
theorem w_X8_findComes_79 {p : Program} {l : Launch} {e : Env} {R : Room} {s : State} {m : MethodId} {args : Array Value} {below : List Frame} {meth : Method} {c : Code} {D : va_G} {ad : Nat → Nat} {cI cJ cZ : ClassId} {res : SS} (hm : mx p s m args meth c cX8_findComes 5 none wsX8_findComes RX8) (hR : 0 ≤ R.frames ∧ 0 ≤ R.locals) (hK : va_K D vwCl (tyw cI cJ cZ) s) (hD : ∀ σ, va_D (aM ad) (wM ad cI cJ cZ σ)) (k2 : Int32 → SS → Option (SS)) (hk2 : ∀ (v1 : Int32) (σ : SS), k2 v1 σ = some res → ∀ (H : Heap) (locs : List Loc) (ls : Array Slot), va_P D vwCl (wM ad cI cJ cZ σ) H → va_S (aM ad) s.heap H locs → lv_has ls 5 [(0, .ref (ad 0)), (1, .int v1)] → W p l e R s m args below meth c H locs 0 0 (MQ below (va_Qv (fun (u : SS) => u = res) (fun u t => va_P D vwCl (wM ad cI cJ cZ u) t.heap) (aM ad)) args s 0 0 (aM ad)) (F0 m 2 ls [])) (k12 : Int32 → Int32 → SS → Option (SS)) (hk12 : ∀ (v1 : Int32) (v2 : Int32) (σ : SS), k12 v1 v2 σ = some res → ∀ (H : Heap) (locs : List Loc) (ls : Array Slot), va_P D vwCl (wM ad cI cJ cZ σ) H → va_S (aM ad) s.heap H locs → lv_has ls 5 [(0, .ref (ad 0)), (1, .int v1), (2, .int v2)] → W p l e R s m args below meth c H locs 0 0 (MQ below (va_Qv (fun (u : SS) => u = res) (fun u t => va_P D vwCl (wM ad cI cJ cZ u) t.heap) (aM ad)) args s 0 0 (aM ad)) (F0 m 12 ls [])) (k25 : Int32 → Int32 → Int32 → Int32 → SS → Option (SS)) (hk25 : ∀ (v1 : Int32) (v2 : Int32) (v3 : Int32) (v4 : Int32) (σ : SS), k25 v1 v2 v3 v4 σ = some res → ∀ (H : Heap) (locs : List Loc) (ls : Array Slot), va_P D vwCl (wM ad cI cJ cZ σ) H → va_S (aM ad) s.heap H locs → lv_has ls 5 [(0, .ref (ad 0)), (1, .int v1), (2, .int v2), (3, .int v3), (4, .int v4)] → W p l e R s m args below meth c H locs 0 0 (MQ below (va_Qv (fun (u : SS) => u = res) (fun u t => va_P D vwCl (wM ad cI cJ cZ u) t.heap) (aM ad)) args s 0 0 (aM ad)) (F0 m 25 ls [])) (v1 : Int32) (v2 : Int32) (v4 : Int32) (t0 : Int32) (σ : SS) (hf : p_X8_findComes_79 k2 k12 k25 v1 v2 v4 t0 σ = some res) (H : Heap) (locs : List Loc) (ls : Array Slot) (hP : va_P D vwCl (wM ad cI cJ cZ σ) H) (hS : va_S (aM ad) s.heap H locs) (hl : lv_has ls 5 [(0, .ref (ad 0)), (1, .int v1), (2, .int v2), (4, .int v4)]) : W p l e R s m args below meth c H locs 0 0 (MQ below (va_Qv (fun (u : SS) => u = res) (fun u t => va_P D vwCl (wM ad cI cJ cZ u) t.heap) (aM ad)) args s 0 0 (aM ad)) (F0 m 79 ls [.int t0]) := by
  obtain ⟨hx, hb, hr, hml, hown, hts, hlk⟩ := id hm
  unfold p_X8_findComes_79 at hf
  refine lv_istore_n (lv' := [(3, .int t0), (0, .ref (ad 0)), (1, .int v1), (2, .int v2), (4, .int v4)]) hx hb dX8_findComes_79 rfl hl (by decide) rfl (fun ls hl => ?_)
  refine lv_iinc (v := (v4 + 1)) (lv' := [(4, .int (v4 + 1)), (3, .int t0), (0, .ref (ad 0)), (1, .int v1), (2, .int v2)]) hx hb dX8_findComes_80 hl (k := 4) rfl rfl (by decide) rfl (fun ls hl => ?_)
  refine lv_goto (tgt := 25) hx hb dX8_findComes_83 (by decide) ?_
  exact hk25 v1 v2 t0 (v4 + 1) σ hf _ _ _ hP hS (lv_sub hl [2, 3, 4, 1, 0] rfl)
def p_X8_findComes_74 (k2 : Int32 → SS → Option (SS)) (k12 : Int32 → Int32 → SS → Option (SS)) (k25 : Int32 → Int32 → Int32 → Int32 → SS → Option (SS)) (v1 : Int32) (v2 : Int32) (v4 : Int32) (σ : SS) : Option (SS) := p_X8_findComes_79 k2 k12 k25 v1 v2 v4 1 σ
set_option maxHeartbeats 4000000 in
set_option maxRecDepth 100000 in
theorem w_X8_findComes_74 {p : Program} {l : Launch} {e : Env} {R : Room} {s : State} {m : MethodId} {args : Array Value} {below : List Frame} {meth : Method} {c : Code} {D : va_G} {ad : Nat → Nat} {cI cJ cZ : ClassId} {res : SS} (hm : mx p s m args meth c cX8_findComes 5 none wsX8_findComes RX8) (hR : 0 ≤ R.frames ∧ 0 ≤ R.locals) (hK : va_K D vwCl (tyw cI cJ cZ) s) (hD : ∀ σ, va_D (aM ad) (wM ad cI cJ cZ σ)) (k2 : Int32 → SS → Option (SS)) (hk2 : ∀ (v1 : Int32) (σ : SS), k2 v1 σ = some res → ∀ (H : Heap) (locs : List Loc) (ls : Array Slot), va_P D vwCl (wM ad cI cJ cZ σ) H → va_S (aM ad) s.heap H locs → lv_has ls 5 [(0, .ref (ad 0)), (1, .int v1)] → W p l e R s m args below meth c H locs 0 0 (MQ below (va_Qv (fun (u : SS) => u = res) (fun u t => va_P D vwCl (wM ad cI cJ cZ u) t.heap) (aM ad)) args s 0 0 (aM ad)) (F0 m 2 ls [])) (k12 : Int32 → Int32 → SS → Option (SS)) (hk12 : ∀ (v1 : Int32) (v2 : Int32) (σ : SS), k12 v1 v2 σ = some res → ∀ (H : Heap) (locs : List Loc) (ls : Array Slot), va_P D vwCl (wM ad cI cJ cZ σ) H → va_S (aM ad) s.heap H locs → lv_has ls 5 [(0, .ref (ad 0)), (1, .int v1), (2, .int v2)] → W p l e R s m args below meth c H locs 0 0 (MQ below (va_Qv (fun (u : SS) => u = res) (fun u t => va_P D vwCl (wM ad cI cJ cZ u) t.heap) (aM ad)) args s 0 0 (aM ad)) (F0 m 12 ls [])) (k25 : Int32 → Int32 → Int32 → Int32 → SS → Option (SS)) (hk25 : ∀ (v1 : Int32) (v2 : Int32) (v3 : Int32) (v4 : Int32) (σ : SS), k25 v1 v2 v3 v4 σ = some res → ∀ (H : Heap) (locs : List Loc) (ls : Array Slot), va_P D vwCl (wM ad cI cJ cZ σ) H → va_S (aM ad) s.heap H locs → lv_has ls 5 [(0, .ref (ad 0)), (1, .int v1), (2, .int v2), (3, .int v3), (4, .int v4)] → W p l e R s m args below meth c H locs 0 0 (MQ below (va_Qv (fun (u : SS) => u = res) (fun u t => va_P D vwCl (wM ad cI cJ cZ u) t.heap) (aM ad)) args s 0 0 (aM ad)) (F0 m 25 ls [])) (v1 : Int32) (v2 : Int32) (v4 : Int32) (σ : SS) (hf : p_X8_findComes_74 k2 k12 k25 v1 v2 v4 σ = some res) (H : Heap) (locs : List Loc) (ls : Array Slot) (hP : va_P D vwCl (wM ad cI cJ cZ σ) H) (hS : va_S (aM ad) s.heap H locs) (hl : lv_has ls 5 [(0, .ref (ad 0)), (1, .int v1), (2, .int v2), (4, .int v4)]) : W p l e R s m args below meth c H locs 0 0 (MQ below (va_Qv (fun (u : SS) => u = res) (fun u t => va_P D vwCl (wM ad cI cJ cZ u) t.heap) (aM ad)) args s 0 0 (aM ad)) (F0 m 74 ls []) := by
  obtain ⟨hx, hb, hr, hml, hown, hts, hlk⟩ := id hm
  unfold p_X8_findComes_74 at hf
  refine lv_iconst (v := 1) hx hb dX8_findComes_74 (by decide) ?_
  refine lv_goto (tgt := 79) hx hb dX8_findComes_75 (by decide) ?_
  exact w_X8_findComes_79 hm hR hK hD k2 hk2 k12 hk12 k25 hk25 v1 v2 v4 1 σ hf _ _ _ hP hS (lv_sub hl [0, 1, 2, 3] rfl)
def p_X8_findComes_86 (k2 : Int32 → SS → Option (SS)) (k12 : Int32 → Int32 → SS → Option (SS)) (v1 : Int32) (v2 : Int32) (v3 : Int32) (σ : SS) : Option (SS) := oi ((48 * v1) + v2) 2304 (ob v3 (os (sI σ 26 (((48 * v1) + v2).toNatClampNeg) v3) (fun s_97 => oi ((48 * v1) + v2) 2304 (ob v3 (os (sI s_97 25 (((48 * v1) + v2).toNatClampNeg) v3) (fun s_109 => k12 v1 (v2 + 1) s_109))))))
set_option maxHeartbeats 4000000 in
set_option maxRecDepth 100000 in
theorem w_X8_findComes_86 {p : Program} {l : Launch} {e : Env} {R : Room} {s : State} {m : MethodId} {args : Array Value} {below : List Frame} {meth : Method} {c : Code} {D : va_G} {ad : Nat → Nat} {cI cJ cZ : ClassId} {res : SS} (hm : mx p s m args meth c cX8_findComes 5 none wsX8_findComes RX8) (hR : 0 ≤ R.frames ∧ 0 ≤ R.locals) (hK : va_K D vwCl (tyw cI cJ cZ) s) (hD : ∀ σ, va_D (aM ad) (wM ad cI cJ cZ σ)) (k2 : Int32 → SS → Option (SS)) (hk2 : ∀ (v1 : Int32) (σ : SS), k2 v1 σ = some res → ∀ (H : Heap) (locs : List Loc) (ls : Array Slot), va_P D vwCl (wM ad cI cJ cZ σ) H → va_S (aM ad) s.heap H locs → lv_has ls 5 [(0, .ref (ad 0)), (1, .int v1)] → W p l e R s m args below meth c H locs 0 0 (MQ below (va_Qv (fun (u : SS) => u = res) (fun u t => va_P D vwCl (wM ad cI cJ cZ u) t.heap) (aM ad)) args s 0 0 (aM ad)) (F0 m 2 ls [])) (k12 : Int32 → Int32 → SS → Option (SS)) (hk12 : ∀ (v1 : Int32) (v2 : Int32) (σ : SS), k12 v1 v2 σ = some res → ∀ (H : Heap) (locs : List Loc) (ls : Array Slot), va_P D vwCl (wM ad cI cJ cZ σ) H → va_S (aM ad) s.heap H locs → lv_has ls 5 [(0, .ref (ad 0)), (1, .int v1), (2, .int v2)] → W p l e R s m args below meth c H locs 0 0 (MQ below (va_Qv (fun (u : SS) => u = res) (fun u t => va_P D vwCl (wM ad cI cJ cZ u) t.heap) (aM ad)) args s 0 0 (aM ad)) (F0 m 12 ls [])) (v1 : Int32) (v2 : Int32) (v3 : Int32) (σ : SS) (hf : p_X8_findComes_86 k2 k12 v1 v2 v3 σ = some res) (H : Heap) (locs : List Loc) (ls : Array Slot) (hP : va_P D vwCl (wM ad cI cJ cZ σ) H) (hS : va_S (aM ad) s.heap H locs) (hl : lv_has ls 5 [(0, .ref (ad 0)), (1, .int v1), (2, .int v2), (3, .int v3)]) : W p l e R s m args below meth c H locs 0 0 (MQ below (va_Qv (fun (u : SS) => u = res) (fun u t => va_P D vwCl (wM ad cI cJ cZ u) t.heap) (aM ad)) args s 0 0 (aM ad)) (F0 m 86 ls []) := by
  obtain ⟨hx, hb, hr, hml, hown, hts, hlk⟩ := id hm
  unfold p_X8_findComes_86 at hf
  refine lv_aload_n hx hb dX8_findComes_86 rfl (lv_at hl 0 rfl) ?_
  refine va_get (D := D) (ci := 7) (v := .ref (ad 26)) (C := RX8) (T := TX8) (N := 50) hx hb hts in_X8_findComes_X8 hown hK hP 0 (wM_0 _ _ _ _ _) rfl 31 (by decide) (hts (.fieldLink RX8 86 "CallGraphsModel" "directly" "[Z") (List.mem_of_getElem? (i := 6) rfl)) (fun _ h9 => h9) (fM_0_31 _ _) dX8_findComes_87 ?_
  refine lv_bipush (v := 48) hx hb dX8_findComes_90 (by decide) ?_
  refine lv_iload_n hx hb dX8_findComes_92 rfl (lv_at hl 1 rfl) ?_
  refine lv_imul hx hb dX8_findComes_93 ?_
  refine lv_iload_n hx hb dX8_findComes_94 rfl (lv_at hl 2 rfl) ?_
  refine lv_iadd hx hb dX8_findComes_95 ?_
  refine lv_iload_n hx hb dX8_findComes_96 rfl (lv_at hl 3 rfl) ?_
  obtain ⟨h_97, hf⟩ := oi_e hf
  obtain ⟨hb_97, hf⟩ := ob_e hf
  refine va_zast hx hb hK hP (hD _) hS 26 2 (wM_26 _ _ _ _ _) rfl h_97 dX8_findComes_97 (fun H locs hP _ hS => ?_)
  rw [nb_a hb_97] at hP
  have hP := wM_s26 hP
  obtain ⟨s_97, es_97, hf⟩ := os_e hf
  rw [← es_97] at hP
  refine lv_aload_n hx hb dX8_findComes_98 rfl (lv_at hl 0 rfl) ?_
  refine va_get (D := D) (ci := 7) (v := .ref (ad 25)) (C := RX8) (T := TX8) (N := 50) hx hb hts in_X8_findComes_X8 hown hK hP 0 (wM_0 _ _ _ _ _) rfl 30 (by decide) (hts (.fieldLink RX8 83 "CallGraphsModel" "comes" "[Z") (List.mem_of_getElem? (i := 7) rfl)) (fun _ h9 => h9) (fM_0_30 _ _) dX8_findComes_99 ?_
  refine lv_bipush (v := 48) hx hb dX8_findComes_102 (by decide) ?_
  refine lv_iload_n hx hb dX8_findComes_104 rfl (lv_at hl 1 rfl) ?_
  refine lv_imul hx hb dX8_findComes_105 ?_
  refine lv_iload_n hx hb dX8_findComes_106 rfl (lv_at hl 2 rfl) ?_
  refine lv_iadd hx hb dX8_findComes_107 ?_
  refine lv_iload_n hx hb dX8_findComes_108 rfl (lv_at hl 3 rfl) ?_
  obtain ⟨h_109, hf⟩ := oi_e hf
  obtain ⟨hb_109, hf⟩ := ob_e hf
  refine va_zast hx hb hK hP (hD _) hS 25 2 (wM_25 _ _ _ _ _) rfl h_109 dX8_findComes_109 (fun H locs hP _ hS => ?_)
  rw [nb_a hb_109] at hP
  have hP := wM_s25 hP
  obtain ⟨s_109, es_109, hf⟩ := os_e hf
  rw [← es_109] at hP
  refine lv_iinc (v := (v2 + 1)) (lv' := [(2, .int (v2 + 1)), (0, .ref (ad 0)), (1, .int v1), (3, .int v3)]) hx hb dX8_findComes_110 hl (k := 2) rfl rfl (by decide) rfl (fun ls hl => ?_)
  refine lv_goto (tgt := 12) hx hb dX8_findComes_113 (by decide) ?_
  exact hk12 v1 (v2 + 1) s_109 hf _ _ _ hP hS (lv_sub hl [1, 2, 0] rfl)
def p_X8_findComes_25 (k2 : Int32 → SS → Option (SS)) (k12 : Int32 → Int32 → SS → Option (SS)) : Nat → Int32 → Int32 → Int32 → Int32 → SS → Option (SS)
  | 0, _, _, _, _, _ => none
  | n + 1, v1, v2, v3, v4, σ => let k25 := p_X8_findComes_25 k2 k12 n; oi v1 48 (if (σ.1 9 v1.toNatClampNeg) ≤ v4 then p_X8_findComes_86 k2 k12 v1 v2 v3 σ else oi v1 48 (if (σ.1 14 v1.toNatClampNeg) = 0 then p_X8_findComes_86 k2 k12 v1 v2 v3 σ else if v3 = 0 then oi ((24 * v1) + v4) 1152 (oi ((48 * (σ.1 10 ((24 * v1) + v4).toNatClampNeg)) + v2) 7680 (if (σ.1 18 ((48 * (σ.1 10 ((24 * v1) + v4).toNatClampNeg)) + v2).toNatClampNeg) = 0 then p_X8_findComes_79 k2 k12 k25 v1 v2 v4 0 σ else p_X8_findComes_74 k2 k12 k25 v1 v2 v4 σ)) else p_X8_findComes_74 k2 k12 k25 v1 v2 v4 σ))
set_option maxHeartbeats 4000000 in
set_option maxRecDepth 100000 in
theorem w_X8_findComes_25 {p : Program} {l : Launch} {e : Env} {R : Room} {s : State} {m : MethodId} {args : Array Value} {below : List Frame} {meth : Method} {c : Code} {D : va_G} {ad : Nat → Nat} {cI cJ cZ : ClassId} {res : SS} (hm : mx p s m args meth c cX8_findComes 5 none wsX8_findComes RX8) (hR : 0 ≤ R.frames ∧ 0 ≤ R.locals) (hK : va_K D vwCl (tyw cI cJ cZ) s) (hD : ∀ σ, va_D (aM ad) (wM ad cI cJ cZ σ)) (k2 : Int32 → SS → Option (SS)) (hk2 : ∀ (v1 : Int32) (σ : SS), k2 v1 σ = some res → ∀ (H : Heap) (locs : List Loc) (ls : Array Slot), va_P D vwCl (wM ad cI cJ cZ σ) H → va_S (aM ad) s.heap H locs → lv_has ls 5 [(0, .ref (ad 0)), (1, .int v1)] → W p l e R s m args below meth c H locs 0 0 (MQ below (va_Qv (fun (u : SS) => u = res) (fun u t => va_P D vwCl (wM ad cI cJ cZ u) t.heap) (aM ad)) args s 0 0 (aM ad)) (F0 m 2 ls [])) (k12 : Int32 → Int32 → SS → Option (SS)) (hk12 : ∀ (v1 : Int32) (v2 : Int32) (σ : SS), k12 v1 v2 σ = some res → ∀ (H : Heap) (locs : List Loc) (ls : Array Slot), va_P D vwCl (wM ad cI cJ cZ σ) H → va_S (aM ad) s.heap H locs → lv_has ls 5 [(0, .ref (ad 0)), (1, .int v1), (2, .int v2)] → W p l e R s m args below meth c H locs 0 0 (MQ below (va_Qv (fun (u : SS) => u = res) (fun u t => va_P D vwCl (wM ad cI cJ cZ u) t.heap) (aM ad)) args s 0 0 (aM ad)) (F0 m 12 ls [])) : ∀ (n : Nat) (v1 : Int32) (v2 : Int32) (v3 : Int32) (v4 : Int32) (σ : SS), p_X8_findComes_25 k2 k12 n v1 v2 v3 v4 σ = some res → ∀ (H : Heap) (locs : List Loc) (ls : Array Slot), va_P D vwCl (wM ad cI cJ cZ σ) H → va_S (aM ad) s.heap H locs → lv_has ls 5 [(0, .ref (ad 0)), (1, .int v1), (2, .int v2), (3, .int v3), (4, .int v4)] → W p l e R s m args below meth c H locs 0 0 (MQ below (va_Qv (fun (u : SS) => u = res) (fun u t => va_P D vwCl (wM ad cI cJ cZ u) t.heap) (aM ad)) args s 0 0 (aM ad)) (F0 m 25 ls []) := by
  obtain ⟨hx, hb, hr, hml, hown, hts, hlk⟩ := id hm
  intro n
  induction n with
  | zero =>
    intro _ _ _ _ _ hf
    cases hf
  | succ n hk25 =>
    intro v1 v2 v3 v4 σ hf H locs ls hP hS hl
    rw [p_X8_findComes_25] at hf
    try dsimp only at hf
    refine lv_iload hx hb dX8_findComes_25 (lv_at hl 4 rfl) ?_
    refine lv_aload_n hx hb dX8_findComes_27 rfl (lv_at hl 0 rfl) ?_
    refine va_get (D := D) (ci := 7) (v := .ref (ad 9)) (C := RX8) (T := TX8) (N := 50) hx hb hts in_X8_findComes_X8 hown hK hP 0 (wM_0 _ _ _ _ _) rfl 10 (by decide) (hts (.fieldLink RX8 35 "CallGraphsModel" "opMany" "[I") (List.mem_of_getElem? (i := 2) rfl)) (fun _ h9 => h9) (fM_0_10 _ _) dX8_findComes_28 ?_
    refine lv_iload_n hx hb dX8_findComes_31 rfl (lv_at hl 1 rfl) ?_
    obtain ⟨h_32, hf⟩ := oi_e hf
    refine va_iald hx hb hK hP 9 0 (wM_9 _ _ _ _ _) rfl h_32 dX8_findComes_32 ?_
    refine lv_icmp_ge (tgt := 86) hx hb dX8_findComes_33 (by decide) (fun c_33 => ?_) (fun c_33 => ?_)
    · rw [if_pos c_33] at hf
      exact w_X8_findComes_86 hm hR hK hD k2 hk2 k12 hk12 v1 v2 v3 σ hf _ _ _ hP hS (lv_sub hl [0, 1, 2, 3] rfl)
    · rw [if_neg c_33] at hf
      refine lv_aload_n hx hb dX8_findComes_36 rfl (lv_at hl 0 rfl) ?_
      refine va_get (D := D) (ci := 7) (v := .ref (ad 14)) (C := RX8) (T := TX8) (N := 50) hx hb hts in_X8_findComes_X8 hown hK hP 0 (wM_0 _ _ _ _ _) rfl 18 (by decide) (hts (.fieldLink RX8 50 "CallGraphsModel" "reached" "[Z") (List.mem_of_getElem? (i := 3) rfl)) (fun _ h9 => h9) (fM_0_18 _ _) dX8_findComes_37 ?_
      refine lv_iload_n hx hb dX8_findComes_40 rfl (lv_at hl 1 rfl) ?_
      obtain ⟨h_41, hf⟩ := oi_e hf
      refine va_zald hx hb hK hP 14 2 (wM_14 _ _ _ _ _) rfl h_41 dX8_findComes_41 ?_
      refine lv_if_eq (tgt := 86) hx hb dX8_findComes_42 (by decide) (fun c_42 => ?_) (fun c_42 => ?_)
      · rw [if_pos c_42] at hf
        exact w_X8_findComes_86 hm hR hK hD k2 hk2 k12 hk12 v1 v2 v3 σ hf _ _ _ hP hS (lv_sub hl [0, 1, 2, 3] rfl)
      · rw [if_neg c_42] at hf
        refine lv_iload_n hx hb dX8_findComes_45 rfl (lv_at hl 3 rfl) ?_
        refine lv_if_ne (tgt := 74) hx hb dX8_findComes_46 (by decide) (fun c_46 => ?_) (fun c_46 => ?_)
        · rw [if_neg c_46] at hf
          exact w_X8_findComes_74 hm hR hK hD k2 hk2 k12 hk12 (p_X8_findComes_25 k2 k12 n) hk25 v1 v2 v4 σ hf _ _ _ hP hS (lv_sub hl [0, 1, 2, 4] rfl)
        · rw [if_pos c_46] at hf
          refine lv_aload_n hx hb dX8_findComes_49 rfl (lv_at hl 0 rfl) ?_
          refine va_get (D := D) (ci := 7) (v := .ref (ad 18)) (C := RX8) (T := TX8) (N := 50) hx hb hts in_X8_findComes_X8 hown hK hP 0 (wM_0 _ _ _ _ _) rfl 22 (by decide) (hts (.fieldLink RX8 62 "CallGraphsModel" "calls" "[Z") (List.mem_of_getElem? (i := 4) rfl)) (fun _ h9 => h9) (fM_0_22 _ _) dX8_findComes_50 ?_
          refine lv_bipush (v := 48) hx hb dX8_findComes_53 (by decide) ?_
          refine lv_aload_n hx hb dX8_findComes_55 rfl (lv_at hl 0 rfl) ?_
          refine va_get (D := D) (ci := 7) (v := .ref (ad 10)) (C := RX8) (T := TX8) (N := 50) hx hb hts in_X8_findComes_X8 hown hK hP 0 (wM_0 _ _ _ _ _) rfl 11 (by decide) (hts (.fieldLink RX8 38 "CallGraphsModel" "opAt" "[I") (List.mem_of_getElem? (i := 5) rfl)) (fun _ h9 => h9) (fM_0_11 _ _) dX8_findComes_56 ?_
          refine lv_bipush (v := 24) hx hb dX8_findComes_59 (by decide) ?_
          refine lv_iload_n hx hb dX8_findComes_61 rfl (lv_at hl 1 rfl) ?_
          refine lv_imul hx hb dX8_findComes_62 ?_
          refine lv_iload hx hb dX8_findComes_63 (lv_at hl 4 rfl) ?_
          refine lv_iadd hx hb dX8_findComes_65 ?_
          obtain ⟨h_66, hf⟩ := oi_e hf
          refine va_iald hx hb hK hP 10 0 (wM_10 _ _ _ _ _) rfl h_66 dX8_findComes_66 ?_
          refine lv_imul hx hb dX8_findComes_67 ?_
          refine lv_iload_n hx hb dX8_findComes_68 rfl (lv_at hl 2 rfl) ?_
          refine lv_iadd hx hb dX8_findComes_69 ?_
          obtain ⟨h_70, hf⟩ := oi_e hf
          refine va_zald hx hb hK hP 18 2 (wM_18 _ _ _ _ _) rfl h_70 dX8_findComes_70 ?_
          refine lv_if_eq (tgt := 78) hx hb dX8_findComes_71 (by decide) (fun c_71 => ?_) (fun c_71 => ?_)
          · rw [if_pos c_71] at hf
            refine lv_iconst (v := 0) hx hb dX8_findComes_78 (by decide) ?_
            exact w_X8_findComes_79 hm hR hK hD k2 hk2 k12 hk12 (p_X8_findComes_25 k2 k12 n) hk25 v1 v2 v4 0 σ hf _ _ _ hP hS (lv_sub hl [0, 1, 2, 4] rfl)
          · rw [if_neg c_71] at hf
            exact w_X8_findComes_74 hm hR hK hD k2 hk2 k12 hk12 (p_X8_findComes_25 k2 k12 n) hk25 v1 v2 v4 σ hf _ _ _ hP hS (lv_sub hl [0, 1, 2, 4] rfl)
def p_X8_findComes_12 (k2 : Int32 → SS → Option (SS)) : Nat → Int32 → Int32 → SS → Option (SS)
  | 0, _, _, _ => none
  | n + 1, v1, v2, σ => let k12 := p_X8_findComes_12 k2 n; if (σ.1 0 5) ≤ v2 then k2 (v1 + 1) σ else p_X8_findComes_25 k2 k12 100000 v1 v2 0 0 σ
set_option maxHeartbeats 4000000 in
set_option maxRecDepth 100000 in
theorem w_X8_findComes_12 {p : Program} {l : Launch} {e : Env} {R : Room} {s : State} {m : MethodId} {args : Array Value} {below : List Frame} {meth : Method} {c : Code} {D : va_G} {ad : Nat → Nat} {cI cJ cZ : ClassId} {res : SS} (hm : mx p s m args meth c cX8_findComes 5 none wsX8_findComes RX8) (hR : 0 ≤ R.frames ∧ 0 ≤ R.locals) (hK : va_K D vwCl (tyw cI cJ cZ) s) (hD : ∀ σ, va_D (aM ad) (wM ad cI cJ cZ σ)) (k2 : Int32 → SS → Option (SS)) (hk2 : ∀ (v1 : Int32) (σ : SS), k2 v1 σ = some res → ∀ (H : Heap) (locs : List Loc) (ls : Array Slot), va_P D vwCl (wM ad cI cJ cZ σ) H → va_S (aM ad) s.heap H locs → lv_has ls 5 [(0, .ref (ad 0)), (1, .int v1)] → W p l e R s m args below meth c H locs 0 0 (MQ below (va_Qv (fun (u : SS) => u = res) (fun u t => va_P D vwCl (wM ad cI cJ cZ u) t.heap) (aM ad)) args s 0 0 (aM ad)) (F0 m 2 ls [])) : ∀ (n : Nat) (v1 : Int32) (v2 : Int32) (σ : SS), p_X8_findComes_12 k2 n v1 v2 σ = some res → ∀ (H : Heap) (locs : List Loc) (ls : Array Slot), va_P D vwCl (wM ad cI cJ cZ σ) H → va_S (aM ad) s.heap H locs → lv_has ls 5 [(0, .ref (ad 0)), (1, .int v1), (2, .int v2)] → W p l e R s m args below meth c H locs 0 0 (MQ below (va_Qv (fun (u : SS) => u = res) (fun u t => va_P D vwCl (wM ad cI cJ cZ u) t.heap) (aM ad)) args s 0 0 (aM ad)) (F0 m 12 ls []) := by
  obtain ⟨hx, hb, hr, hml, hown, hts, hlk⟩ := id hm
  intro n
  induction n with
  | zero =>
    intro _ _ _ hf
    cases hf
  | succ n hk12 =>
    intro v1 v2 σ hf H locs ls hP hS hl
    rw [p_X8_findComes_12] at hf
    try dsimp only at hf
    refine lv_iload_n hx hb dX8_findComes_12 rfl (lv_at hl 2 rfl) ?_
    refine lv_aload_n hx hb dX8_findComes_13 rfl (lv_at hl 0 rfl) ?_
    refine va_get (D := D) (ci := 7) (v := .int (σ.1 0 5)) (C := RX8) (T := TX8) (N := 50) hx hb hts in_X8_findComes_X8 hown hK hP 0 (wM_0 _ _ _ _ _) rfl 5 (by decide) (hts (.fieldLink RX8 131 "CallGraphsModel" "members" "I") (List.mem_of_getElem? (i := 1) rfl)) (fun _ h9 => h9) (fM_0_5 _ _) dX8_findComes_14 ?_
    refine lv_icmp_ge (tgt := 116) hx hb dX8_findComes_17 (by decide) (fun c_17 => ?_) (fun c_17 => ?_)
    · rw [if_pos c_17] at hf
      refine lv_iinc (v := (v1 + 1)) (lv' := [(1, .int (v1 + 1)), (0, .ref (ad 0)), (2, .int v2)]) hx hb dX8_findComes_116 hl (k := 1) rfl rfl (by decide) rfl (fun ls hl => ?_)
      refine lv_goto (tgt := 2) hx hb dX8_findComes_119 (by decide) ?_
      exact hk2 (v1 + 1) σ hf _ _ _ hP hS (lv_sub hl [1, 0] rfl)
    · rw [if_neg c_17] at hf
      refine lv_iconst (v := 0) hx hb dX8_findComes_20 (by decide) ?_
      refine lv_istore_n (lv' := [(3, .int 0), (0, .ref (ad 0)), (1, .int v1), (2, .int v2)]) hx hb dX8_findComes_21 rfl hl (by decide) rfl (fun ls hl => ?_)
      refine lv_iconst (v := 0) hx hb dX8_findComes_22 (by decide) ?_
      refine lv_istore (lv' := [(4, .int 0), (3, .int 0), (0, .ref (ad 0)), (1, .int v1), (2, .int v2)]) hx hb dX8_findComes_23 hl (by decide) rfl (fun ls hl => ?_)
      exact w_X8_findComes_25 hm hR hK hD k2 hk2 (p_X8_findComes_12 k2 n) hk12 100000 v1 v2 0 0 σ hf _ _ _ hP hS (lv_sub hl [2, 3, 4, 1, 0] rfl)
def p_X8_findComes_209 (k124 : Int32 → SS → Option (SS)) (k134 : Int32 → Int32 → SS → Option (SS)) (k144 : Int32 → Int32 → Int32 → SS → Option (SS)) (v1 : Int32) (v2 : Int32) (v3 : Int32) (t0 : Int32) (t1 : Int32) (σ : SS) : Option (SS) := oi t1 2304 (ob t0 (os (sI σ 25 (t1.toNatClampNeg) t0) (fun s_209 => k144 v1 v2 (v3 + 1) s_209)))
set_option maxHeartbeats 4000000 in
set_option maxRecDepth 100000 in
theorem w_X8_findComes_209 {p : Program} {l : Launch} {e : Env} {R : Room} {s : State} {m : MethodId} {args : Array Value} {below : List Frame} {meth : Method} {c : Code} {D : va_G} {ad : Nat → Nat} {cI cJ cZ : ClassId} {res : SS} (hm : mx p s m args meth c cX8_findComes 5 none wsX8_findComes RX8) (hR : 0 ≤ R.frames ∧ 0 ≤ R.locals) (hK : va_K D vwCl (tyw cI cJ cZ) s) (hD : ∀ σ, va_D (aM ad) (wM ad cI cJ cZ σ)) (k124 : Int32 → SS → Option (SS)) (hk124 : ∀ (v1 : Int32) (σ : SS), k124 v1 σ = some res → ∀ (H : Heap) (locs : List Loc) (ls : Array Slot), va_P D vwCl (wM ad cI cJ cZ σ) H → va_S (aM ad) s.heap H locs → lv_has ls 5 [(0, .ref (ad 0)), (1, .int v1)] → W p l e R s m args below meth c H locs 0 0 (MQ below (va_Qv (fun (u : SS) => u = res) (fun u t => va_P D vwCl (wM ad cI cJ cZ u) t.heap) (aM ad)) args s 0 0 (aM ad)) (F0 m 124 ls [])) (k134 : Int32 → Int32 → SS → Option (SS)) (hk134 : ∀ (v1 : Int32) (v2 : Int32) (σ : SS), k134 v1 v2 σ = some res → ∀ (H : Heap) (locs : List Loc) (ls : Array Slot), va_P D vwCl (wM ad cI cJ cZ σ) H → va_S (aM ad) s.heap H locs → lv_has ls 5 [(0, .ref (ad 0)), (1, .int v1), (2, .int v2)] → W p l e R s m args below meth c H locs 0 0 (MQ below (va_Qv (fun (u : SS) => u = res) (fun u t => va_P D vwCl (wM ad cI cJ cZ u) t.heap) (aM ad)) args s 0 0 (aM ad)) (F0 m 134 ls [])) (k144 : Int32 → Int32 → Int32 → SS → Option (SS)) (hk144 : ∀ (v1 : Int32) (v2 : Int32) (v3 : Int32) (σ : SS), k144 v1 v2 v3 σ = some res → ∀ (H : Heap) (locs : List Loc) (ls : Array Slot), va_P D vwCl (wM ad cI cJ cZ σ) H → va_S (aM ad) s.heap H locs → lv_has ls 5 [(0, .ref (ad 0)), (1, .int v1), (2, .int v2), (3, .int v3)] → W p l e R s m args below meth c H locs 0 0 (MQ below (va_Qv (fun (u : SS) => u = res) (fun u t => va_P D vwCl (wM ad cI cJ cZ u) t.heap) (aM ad)) args s 0 0 (aM ad)) (F0 m 144 ls [])) (v1 : Int32) (v2 : Int32) (v3 : Int32) (t0 : Int32) (t1 : Int32) (σ : SS) (hf : p_X8_findComes_209 k124 k134 k144 v1 v2 v3 t0 t1 σ = some res) (H : Heap) (locs : List Loc) (ls : Array Slot) (hP : va_P D vwCl (wM ad cI cJ cZ σ) H) (hS : va_S (aM ad) s.heap H locs) (hl : lv_has ls 5 [(0, .ref (ad 0)), (1, .int v1), (2, .int v2), (3, .int v3)]) : W p l e R s m args below meth c H locs 0 0 (MQ below (va_Qv (fun (u : SS) => u = res) (fun u t => va_P D vwCl (wM ad cI cJ cZ u) t.heap) (aM ad)) args s 0 0 (aM ad)) (F0 m 209 ls [.int t0, .int t1, .ref (ad 25)]) := by
  obtain ⟨hx, hb, hr, hml, hown, hts, hlk⟩ := id hm
  unfold p_X8_findComes_209 at hf
  obtain ⟨h_209, hf⟩ := oi_e hf
  obtain ⟨hb_209, hf⟩ := ob_e hf
  refine va_zast hx hb hK hP (hD _) hS 25 2 (wM_25 _ _ _ _ _) rfl h_209 dX8_findComes_209 (fun H locs hP _ hS => ?_)
  rw [nb_a hb_209] at hP
  have hP := wM_s25 hP
  obtain ⟨s_209, es_209, hf⟩ := os_e hf
  rw [← es_209] at hP
  refine lv_iinc (v := (v3 + 1)) (lv' := [(3, .int (v3 + 1)), (0, .ref (ad 0)), (1, .int v1), (2, .int v2)]) hx hb dX8_findComes_210 hl (k := 3) rfl rfl (by decide) rfl (fun ls hl => ?_)
  refine lv_goto (tgt := 144) hx hb dX8_findComes_213 (by decide) ?_
  exact hk144 v1 v2 (v3 + 1) s_209 hf _ _ _ hP hS (lv_sub hl [1, 2, 3, 0] rfl)
def p_X8_findComes_204 (k124 : Int32 → SS → Option (SS)) (k134 : Int32 → Int32 → SS → Option (SS)) (k144 : Int32 → Int32 → Int32 → SS → Option (SS)) (v1 : Int32) (v2 : Int32) (v3 : Int32) (t0 : Int32) (σ : SS) : Option (SS) := p_X8_findComes_209 k124 k134 k144 v1 v2 v3 1 t0 σ
set_option maxHeartbeats 4000000 in
set_option maxRecDepth 100000 in
theorem w_X8_findComes_204 {p : Program} {l : Launch} {e : Env} {R : Room} {s : State} {m : MethodId} {args : Array Value} {below : List Frame} {meth : Method} {c : Code} {D : va_G} {ad : Nat → Nat} {cI cJ cZ : ClassId} {res : SS} (hm : mx p s m args meth c cX8_findComes 5 none wsX8_findComes RX8) (hR : 0 ≤ R.frames ∧ 0 ≤ R.locals) (hK : va_K D vwCl (tyw cI cJ cZ) s) (hD : ∀ σ, va_D (aM ad) (wM ad cI cJ cZ σ)) (k124 : Int32 → SS → Option (SS)) (hk124 : ∀ (v1 : Int32) (σ : SS), k124 v1 σ = some res → ∀ (H : Heap) (locs : List Loc) (ls : Array Slot), va_P D vwCl (wM ad cI cJ cZ σ) H → va_S (aM ad) s.heap H locs → lv_has ls 5 [(0, .ref (ad 0)), (1, .int v1)] → W p l e R s m args below meth c H locs 0 0 (MQ below (va_Qv (fun (u : SS) => u = res) (fun u t => va_P D vwCl (wM ad cI cJ cZ u) t.heap) (aM ad)) args s 0 0 (aM ad)) (F0 m 124 ls [])) (k134 : Int32 → Int32 → SS → Option (SS)) (hk134 : ∀ (v1 : Int32) (v2 : Int32) (σ : SS), k134 v1 v2 σ = some res → ∀ (H : Heap) (locs : List Loc) (ls : Array Slot), va_P D vwCl (wM ad cI cJ cZ σ) H → va_S (aM ad) s.heap H locs → lv_has ls 5 [(0, .ref (ad 0)), (1, .int v1), (2, .int v2)] → W p l e R s m args below meth c H locs 0 0 (MQ below (va_Qv (fun (u : SS) => u = res) (fun u t => va_P D vwCl (wM ad cI cJ cZ u) t.heap) (aM ad)) args s 0 0 (aM ad)) (F0 m 134 ls [])) (k144 : Int32 → Int32 → Int32 → SS → Option (SS)) (hk144 : ∀ (v1 : Int32) (v2 : Int32) (v3 : Int32) (σ : SS), k144 v1 v2 v3 σ = some res → ∀ (H : Heap) (locs : List Loc) (ls : Array Slot), va_P D vwCl (wM ad cI cJ cZ σ) H → va_S (aM ad) s.heap H locs → lv_has ls 5 [(0, .ref (ad 0)), (1, .int v1), (2, .int v2), (3, .int v3)] → W p l e R s m args below meth c H locs 0 0 (MQ below (va_Qv (fun (u : SS) => u = res) (fun u t => va_P D vwCl (wM ad cI cJ cZ u) t.heap) (aM ad)) args s 0 0 (aM ad)) (F0 m 144 ls [])) (v1 : Int32) (v2 : Int32) (v3 : Int32) (t0 : Int32) (σ : SS) (hf : p_X8_findComes_204 k124 k134 k144 v1 v2 v3 t0 σ = some res) (H : Heap) (locs : List Loc) (ls : Array Slot) (hP : va_P D vwCl (wM ad cI cJ cZ σ) H) (hS : va_S (aM ad) s.heap H locs) (hl : lv_has ls 5 [(0, .ref (ad 0)), (1, .int v1), (2, .int v2), (3, .int v3)]) : W p l e R s m args below meth c H locs 0 0 (MQ below (va_Qv (fun (u : SS) => u = res) (fun u t => va_P D vwCl (wM ad cI cJ cZ u) t.heap) (aM ad)) args s 0 0 (aM ad)) (F0 m 204 ls [.int t0, .ref (ad 25)]) := by
  obtain ⟨hx, hb, hr, hml, hown, hts, hlk⟩ := id hm
  unfold p_X8_findComes_204 at hf
  refine lv_iconst (v := 1) hx hb dX8_findComes_204 (by decide) ?_
  refine lv_goto (tgt := 209) hx hb dX8_findComes_205 (by decide) ?_
  exact w_X8_findComes_209 hm hR hK hD k124 hk124 k134 hk134 k144 hk144 v1 v2 v3 1 t0 σ hf _ _ _ hP hS (lv_sub hl [0, 1, 2, 3] rfl)
def p_X8_findComes_216 (k124 : Int32 → SS → Option (SS)) (k134 : Int32 → Int32 → SS → Option (SS)) (v1 : Int32) (v2 : Int32) (σ : SS) : Option (SS) := k134 v1 (v2 + 1) σ
set_option maxHeartbeats 4000000 in
set_option maxRecDepth 100000 in
theorem w_X8_findComes_216 {p : Program} {l : Launch} {e : Env} {R : Room} {s : State} {m : MethodId} {args : Array Value} {below : List Frame} {meth : Method} {c : Code} {D : va_G} {ad : Nat → Nat} {cI cJ cZ : ClassId} {res : SS} (hm : mx p s m args meth c cX8_findComes 5 none wsX8_findComes RX8) (hR : 0 ≤ R.frames ∧ 0 ≤ R.locals) (hK : va_K D vwCl (tyw cI cJ cZ) s) (hD : ∀ σ, va_D (aM ad) (wM ad cI cJ cZ σ)) (k124 : Int32 → SS → Option (SS)) (hk124 : ∀ (v1 : Int32) (σ : SS), k124 v1 σ = some res → ∀ (H : Heap) (locs : List Loc) (ls : Array Slot), va_P D vwCl (wM ad cI cJ cZ σ) H → va_S (aM ad) s.heap H locs → lv_has ls 5 [(0, .ref (ad 0)), (1, .int v1)] → W p l e R s m args below meth c H locs 0 0 (MQ below (va_Qv (fun (u : SS) => u = res) (fun u t => va_P D vwCl (wM ad cI cJ cZ u) t.heap) (aM ad)) args s 0 0 (aM ad)) (F0 m 124 ls [])) (k134 : Int32 → Int32 → SS → Option (SS)) (hk134 : ∀ (v1 : Int32) (v2 : Int32) (σ : SS), k134 v1 v2 σ = some res → ∀ (H : Heap) (locs : List Loc) (ls : Array Slot), va_P D vwCl (wM ad cI cJ cZ σ) H → va_S (aM ad) s.heap H locs → lv_has ls 5 [(0, .ref (ad 0)), (1, .int v1), (2, .int v2)] → W p l e R s m args below meth c H locs 0 0 (MQ below (va_Qv (fun (u : SS) => u = res) (fun u t => va_P D vwCl (wM ad cI cJ cZ u) t.heap) (aM ad)) args s 0 0 (aM ad)) (F0 m 134 ls [])) (v1 : Int32) (v2 : Int32) (σ : SS) (hf : p_X8_findComes_216 k124 k134 v1 v2 σ = some res) (H : Heap) (locs : List Loc) (ls : Array Slot) (hP : va_P D vwCl (wM ad cI cJ cZ σ) H) (hS : va_S (aM ad) s.heap H locs) (hl : lv_has ls 5 [(0, .ref (ad 0)), (1, .int v1), (2, .int v2)]) : W p l e R s m args below meth c H locs 0 0 (MQ below (va_Qv (fun (u : SS) => u = res) (fun u t => va_P D vwCl (wM ad cI cJ cZ u) t.heap) (aM ad)) args s 0 0 (aM ad)) (F0 m 216 ls []) := by
  obtain ⟨hx, hb, hr, hml, hown, hts, hlk⟩ := id hm
  unfold p_X8_findComes_216 at hf
  refine lv_iinc (v := (v2 + 1)) (lv' := [(2, .int (v2 + 1)), (0, .ref (ad 0)), (1, .int v1)]) hx hb dX8_findComes_216 hl (k := 2) rfl rfl (by decide) rfl (fun ls hl => ?_)
  refine lv_goto (tgt := 134) hx hb dX8_findComes_219 (by decide) ?_
  exact hk134 v1 (v2 + 1) σ hf _ _ _ hP hS (lv_sub hl [1, 2, 0] rfl)
def p_X8_findComes_144 (k124 : Int32 → SS → Option (SS)) (k134 : Int32 → Int32 → SS → Option (SS)) : Nat → Int32 → Int32 → Int32 → SS → Option (SS)
  | 0, _, _, _, _ => none
  | n + 1, v1, v2, v3, σ => let k144 := p_X8_findComes_144 k124 k134 n; if (σ.1 0 5) ≤ v3 then p_X8_findComes_216 k124 k134 v1 v2 σ else oi ((48 * v2) + v1) 2304 (if (σ.1 25 ((48 * v2) + v1).toNatClampNeg) = 0 then p_X8_findComes_216 k124 k134 v1 v2 σ else oi ((48 * v2) + v3) 2304 (if (σ.1 25 ((48 * v2) + v3).toNatClampNeg) = 0 then oi ((48 * v1) + v3) 2304 (if (σ.1 25 ((48 * v1) + v3).toNatClampNeg) = 0 then p_X8_findComes_209 k124 k134 k144 v1 v2 v3 0 ((48 * v2) + v3) σ else p_X8_findComes_204 k124 k134 k144 v1 v2 v3 ((48 * v2) + v3) σ) else p_X8_findComes_204 k124 k134 k144 v1 v2 v3 ((48 * v2) + v3) σ))
set_option maxHeartbeats 4000000 in
set_option maxRecDepth 100000 in
theorem w_X8_findComes_144 {p : Program} {l : Launch} {e : Env} {R : Room} {s : State} {m : MethodId} {args : Array Value} {below : List Frame} {meth : Method} {c : Code} {D : va_G} {ad : Nat → Nat} {cI cJ cZ : ClassId} {res : SS} (hm : mx p s m args meth c cX8_findComes 5 none wsX8_findComes RX8) (hR : 0 ≤ R.frames ∧ 0 ≤ R.locals) (hK : va_K D vwCl (tyw cI cJ cZ) s) (hD : ∀ σ, va_D (aM ad) (wM ad cI cJ cZ σ)) (k124 : Int32 → SS → Option (SS)) (hk124 : ∀ (v1 : Int32) (σ : SS), k124 v1 σ = some res → ∀ (H : Heap) (locs : List Loc) (ls : Array Slot), va_P D vwCl (wM ad cI cJ cZ σ) H → va_S (aM ad) s.heap H locs → lv_has ls 5 [(0, .ref (ad 0)), (1, .int v1)] → W p l e R s m args below meth c H locs 0 0 (MQ below (va_Qv (fun (u : SS) => u = res) (fun u t => va_P D vwCl (wM ad cI cJ cZ u) t.heap) (aM ad)) args s 0 0 (aM ad)) (F0 m 124 ls [])) (k134 : Int32 → Int32 → SS → Option (SS)) (hk134 : ∀ (v1 : Int32) (v2 : Int32) (σ : SS), k134 v1 v2 σ = some res → ∀ (H : Heap) (locs : List Loc) (ls : Array Slot), va_P D vwCl (wM ad cI cJ cZ σ) H → va_S (aM ad) s.heap H locs → lv_has ls 5 [(0, .ref (ad 0)), (1, .int v1), (2, .int v2)] → W p l e R s m args below meth c H locs 0 0 (MQ below (va_Qv (fun (u : SS) => u = res) (fun u t => va_P D vwCl (wM ad cI cJ cZ u) t.heap) (aM ad)) args s 0 0 (aM ad)) (F0 m 134 ls [])) : ∀ (n : Nat) (v1 : Int32) (v2 : Int32) (v3 : Int32) (σ : SS), p_X8_findComes_144 k124 k134 n v1 v2 v3 σ = some res → ∀ (H : Heap) (locs : List Loc) (ls : Array Slot), va_P D vwCl (wM ad cI cJ cZ σ) H → va_S (aM ad) s.heap H locs → lv_has ls 5 [(0, .ref (ad 0)), (1, .int v1), (2, .int v2), (3, .int v3)] → W p l e R s m args below meth c H locs 0 0 (MQ below (va_Qv (fun (u : SS) => u = res) (fun u t => va_P D vwCl (wM ad cI cJ cZ u) t.heap) (aM ad)) args s 0 0 (aM ad)) (F0 m 144 ls []) := by
  obtain ⟨hx, hb, hr, hml, hown, hts, hlk⟩ := id hm
  intro n
  induction n with
  | zero =>
    intro _ _ _ _ hf
    cases hf
  | succ n hk144 =>
    intro v1 v2 v3 σ hf H locs ls hP hS hl
    rw [p_X8_findComes_144] at hf
    try dsimp only at hf
    refine lv_iload_n hx hb dX8_findComes_144 rfl (lv_at hl 3 rfl) ?_
    refine lv_aload_n hx hb dX8_findComes_145 rfl (lv_at hl 0 rfl) ?_
    refine va_get (D := D) (ci := 7) (v := .int (σ.1 0 5)) (C := RX8) (T := TX8) (N := 50) hx hb hts in_X8_findComes_X8 hown hK hP 0 (wM_0 _ _ _ _ _) rfl 5 (by decide) (hts (.fieldLink RX8 131 "CallGraphsModel" "members" "I") (List.mem_of_getElem? (i := 1) rfl)) (fun _ h9 => h9) (fM_0_5 _ _) dX8_findComes_146 ?_
    refine lv_icmp_ge (tgt := 216) hx hb dX8_findComes_149 (by decide) (fun c_149 => ?_) (fun c_149 => ?_)
    · rw [if_pos c_149] at hf
      exact w_X8_findComes_216 hm hR hK hD k124 hk124 k134 hk134 v1 v2 σ hf _ _ _ hP hS (lv_sub hl [0, 1, 2] rfl)
    · rw [if_neg c_149] at hf
      refine lv_aload_n hx hb dX8_findComes_152 rfl (lv_at hl 0 rfl) ?_
      refine va_get (D := D) (ci := 7) (v := .ref (ad 25)) (C := RX8) (T := TX8) (N := 50) hx hb hts in_X8_findComes_X8 hown hK hP 0 (wM_0 _ _ _ _ _) rfl 30 (by decide) (hts (.fieldLink RX8 83 "CallGraphsModel" "comes" "[Z") (List.mem_of_getElem? (i := 7) rfl)) (fun _ h9 => h9) (fM_0_30 _ _) dX8_findComes_153 ?_
      refine lv_bipush (v := 48) hx hb dX8_findComes_156 (by decide) ?_
      refine lv_iload_n hx hb dX8_findComes_158 rfl (lv_at hl 2 rfl) ?_
      refine lv_imul hx hb dX8_findComes_159 ?_
      refine lv_iload_n hx hb dX8_findComes_160 rfl (lv_at hl 1 rfl) ?_
      refine lv_iadd hx hb dX8_findComes_161 ?_
      obtain ⟨h_162, hf⟩ := oi_e hf
      refine va_zald hx hb hK hP 25 2 (wM_25 _ _ _ _ _) rfl h_162 dX8_findComes_162 ?_
      refine lv_if_eq (tgt := 216) hx hb dX8_findComes_163 (by decide) (fun c_163 => ?_) (fun c_163 => ?_)
      · rw [if_pos c_163] at hf
        exact w_X8_findComes_216 hm hR hK hD k124 hk124 k134 hk134 v1 v2 σ hf _ _ _ hP hS (lv_sub hl [0, 1, 2] rfl)
      · rw [if_neg c_163] at hf
        refine lv_aload_n hx hb dX8_findComes_166 rfl (lv_at hl 0 rfl) ?_
        refine va_get (D := D) (ci := 7) (v := .ref (ad 25)) (C := RX8) (T := TX8) (N := 50) hx hb hts in_X8_findComes_X8 hown hK hP 0 (wM_0 _ _ _ _ _) rfl 30 (by decide) (hts (.fieldLink RX8 83 "CallGraphsModel" "comes" "[Z") (List.mem_of_getElem? (i := 7) rfl)) (fun _ h9 => h9) (fM_0_30 _ _) dX8_findComes_167 ?_
        refine lv_bipush (v := 48) hx hb dX8_findComes_170 (by decide) ?_
        refine lv_iload_n hx hb dX8_findComes_172 rfl (lv_at hl 2 rfl) ?_
        refine lv_imul hx hb dX8_findComes_173 ?_
        refine lv_iload_n hx hb dX8_findComes_174 rfl (lv_at hl 3 rfl) ?_
        refine lv_iadd hx hb dX8_findComes_175 ?_
        refine lv_aload_n hx hb dX8_findComes_176 rfl (lv_at hl 0 rfl) ?_
        refine va_get (D := D) (ci := 7) (v := .ref (ad 25)) (C := RX8) (T := TX8) (N := 50) hx hb hts in_X8_findComes_X8 hown hK hP 0 (wM_0 _ _ _ _ _) rfl 30 (by decide) (hts (.fieldLink RX8 83 "CallGraphsModel" "comes" "[Z") (List.mem_of_getElem? (i := 7) rfl)) (fun _ h9 => h9) (fM_0_30 _ _) dX8_findComes_177 ?_
        refine lv_bipush (v := 48) hx hb dX8_findComes_180 (by decide) ?_
        refine lv_iload_n hx hb dX8_findComes_182 rfl (lv_at hl 2 rfl) ?_
        refine lv_imul hx hb dX8_findComes_183 ?_
        refine lv_iload_n hx hb dX8_findComes_184 rfl (lv_at hl 3 rfl) ?_
        refine lv_iadd hx hb dX8_findComes_185 ?_
        obtain ⟨h_186, hf⟩ := oi_e hf
        refine va_zald hx hb hK hP 25 2 (wM_25 _ _ _ _ _) rfl h_186 dX8_findComes_186 ?_
        refine lv_if_ne (tgt := 204) hx hb dX8_findComes_187 (by decide) (fun c_187 => ?_) (fun c_187 => ?_)
        · rw [if_neg c_187] at hf
          exact w_X8_findComes_204 hm hR hK hD k124 hk124 k134 hk134 (p_X8_findComes_144 k124 k134 n) hk144 v1 v2 v3 ((48 * v2) + v3) σ hf _ _ _ hP hS (lv_sub hl [0, 1, 2, 3] rfl)
        · rw [if_pos c_187] at hf
          refine lv_aload_n hx hb dX8_findComes_190 rfl (lv_at hl 0 rfl) ?_
          refine va_get (D := D) (ci := 7) (v := .ref (ad 25)) (C := RX8) (T := TX8) (N := 50) hx hb hts in_X8_findComes_X8 hown hK hP 0 (wM_0 _ _ _ _ _) rfl 30 (by decide) (hts (.fieldLink RX8 83 "CallGraphsModel" "comes" "[Z") (List.mem_of_getElem? (i := 7) rfl)) (fun _ h9 => h9) (fM_0_30 _ _) dX8_findComes_191 ?_
          refine lv_bipush (v := 48) hx hb dX8_findComes_194 (by decide) ?_
          refine lv_iload_n hx hb dX8_findComes_196 rfl (lv_at hl 1 rfl) ?_
          refine lv_imul hx hb dX8_findComes_197 ?_
          refine lv_iload_n hx hb dX8_findComes_198 rfl (lv_at hl 3 rfl) ?_
          refine lv_iadd hx hb dX8_findComes_199 ?_
          obtain ⟨h_200, hf⟩ := oi_e hf
          refine va_zald hx hb hK hP 25 2 (wM_25 _ _ _ _ _) rfl h_200 dX8_findComes_200 ?_
          refine lv_if_eq (tgt := 208) hx hb dX8_findComes_201 (by decide) (fun c_201 => ?_) (fun c_201 => ?_)
          · rw [if_pos c_201] at hf
            refine lv_iconst (v := 0) hx hb dX8_findComes_208 (by decide) ?_
            exact w_X8_findComes_209 hm hR hK hD k124 hk124 k134 hk134 (p_X8_findComes_144 k124 k134 n) hk144 v1 v2 v3 0 ((48 * v2) + v3) σ hf _ _ _ hP hS (lv_sub hl [0, 1, 2, 3] rfl)
          · rw [if_neg c_201] at hf
            exact w_X8_findComes_204 hm hR hK hD k124 hk124 k134 hk134 (p_X8_findComes_144 k124 k134 n) hk144 v1 v2 v3 ((48 * v2) + v3) σ hf _ _ _ hP hS (lv_sub hl [0, 1, 2, 3] rfl)
def p_X8_findComes_134 (k124 : Int32 → SS → Option (SS)) : Nat → Int32 → Int32 → SS → Option (SS)
  | 0, _, _, _ => none
  | n + 1, v1, v2, σ => let k134 := p_X8_findComes_134 k124 n; if (σ.1 0 5) ≤ v2 then k124 (v1 + 1) σ else p_X8_findComes_144 k124 k134 100000 v1 v2 0 σ
set_option maxHeartbeats 4000000 in
set_option maxRecDepth 100000 in
theorem w_X8_findComes_134 {p : Program} {l : Launch} {e : Env} {R : Room} {s : State} {m : MethodId} {args : Array Value} {below : List Frame} {meth : Method} {c : Code} {D : va_G} {ad : Nat → Nat} {cI cJ cZ : ClassId} {res : SS} (hm : mx p s m args meth c cX8_findComes 5 none wsX8_findComes RX8) (hR : 0 ≤ R.frames ∧ 0 ≤ R.locals) (hK : va_K D vwCl (tyw cI cJ cZ) s) (hD : ∀ σ, va_D (aM ad) (wM ad cI cJ cZ σ)) (k124 : Int32 → SS → Option (SS)) (hk124 : ∀ (v1 : Int32) (σ : SS), k124 v1 σ = some res → ∀ (H : Heap) (locs : List Loc) (ls : Array Slot), va_P D vwCl (wM ad cI cJ cZ σ) H → va_S (aM ad) s.heap H locs → lv_has ls 5 [(0, .ref (ad 0)), (1, .int v1)] → W p l e R s m args below meth c H locs 0 0 (MQ below (va_Qv (fun (u : SS) => u = res) (fun u t => va_P D vwCl (wM ad cI cJ cZ u) t.heap) (aM ad)) args s 0 0 (aM ad)) (F0 m 124 ls [])) : ∀ (n : Nat) (v1 : Int32) (v2 : Int32) (σ : SS), p_X8_findComes_134 k124 n v1 v2 σ = some res → ∀ (H : Heap) (locs : List Loc) (ls : Array Slot), va_P D vwCl (wM ad cI cJ cZ σ) H → va_S (aM ad) s.heap H locs → lv_has ls 5 [(0, .ref (ad 0)), (1, .int v1), (2, .int v2)] → W p l e R s m args below meth c H locs 0 0 (MQ below (va_Qv (fun (u : SS) => u = res) (fun u t => va_P D vwCl (wM ad cI cJ cZ u) t.heap) (aM ad)) args s 0 0 (aM ad)) (F0 m 134 ls []) := by
  obtain ⟨hx, hb, hr, hml, hown, hts, hlk⟩ := id hm
  intro n
  induction n with
  | zero =>
    intro _ _ _ hf
    cases hf
  | succ n hk134 =>
    intro v1 v2 σ hf H locs ls hP hS hl
    rw [p_X8_findComes_134] at hf
    try dsimp only at hf
    refine lv_iload_n hx hb dX8_findComes_134 rfl (lv_at hl 2 rfl) ?_
    refine lv_aload_n hx hb dX8_findComes_135 rfl (lv_at hl 0 rfl) ?_
    refine va_get (D := D) (ci := 7) (v := .int (σ.1 0 5)) (C := RX8) (T := TX8) (N := 50) hx hb hts in_X8_findComes_X8 hown hK hP 0 (wM_0 _ _ _ _ _) rfl 5 (by decide) (hts (.fieldLink RX8 131 "CallGraphsModel" "members" "I") (List.mem_of_getElem? (i := 1) rfl)) (fun _ h9 => h9) (fM_0_5 _ _) dX8_findComes_136 ?_
    refine lv_icmp_ge (tgt := 222) hx hb dX8_findComes_139 (by decide) (fun c_139 => ?_) (fun c_139 => ?_)
    · rw [if_pos c_139] at hf
      refine lv_iinc (v := (v1 + 1)) (lv' := [(1, .int (v1 + 1)), (0, .ref (ad 0)), (2, .int v2)]) hx hb dX8_findComes_222 hl (k := 1) rfl rfl (by decide) rfl (fun ls hl => ?_)
      refine lv_goto (tgt := 124) hx hb dX8_findComes_225 (by decide) ?_
      exact hk124 (v1 + 1) σ hf _ _ _ hP hS (lv_sub hl [1, 0] rfl)
    · rw [if_neg c_139] at hf
      refine lv_iconst (v := 0) hx hb dX8_findComes_142 (by decide) ?_
      refine lv_istore_n (lv' := [(3, .int 0), (0, .ref (ad 0)), (1, .int v1), (2, .int v2)]) hx hb dX8_findComes_143 rfl hl (by decide) rfl (fun ls hl => ?_)
      exact w_X8_findComes_144 hm hR hK hD k124 hk124 (p_X8_findComes_134 k124 n) hk134 100000 v1 v2 0 σ hf _ _ _ hP hS (lv_sub hl [1, 2, 3, 0] rfl)
def p_X8_findComes_124 : Nat → Int32 → SS → Option (SS)
  | 0, _, _ => none
  | n + 1, v1, σ => let k124 := p_X8_findComes_124 n; if (σ.1 0 5) ≤ v1 then some σ else p_X8_findComes_134 k124 100000 v1 0 σ
set_option maxHeartbeats 4000000 in
set_option maxRecDepth 100000 in
theorem w_X8_findComes_124 {p : Program} {l : Launch} {e : Env} {R : Room} {s : State} {m : MethodId} {args : Array Value} {below : List Frame} {meth : Method} {c : Code} {D : va_G} {ad : Nat → Nat} {cI cJ cZ : ClassId} {res : SS} (hm : mx p s m args meth c cX8_findComes 5 none wsX8_findComes RX8) (hR : 0 ≤ R.frames ∧ 0 ≤ R.locals) (hK : va_K D vwCl (tyw cI cJ cZ) s) (hD : ∀ σ, va_D (aM ad) (wM ad cI cJ cZ σ)) : ∀ (n : Nat) (v1 : Int32) (σ : SS), p_X8_findComes_124 n v1 σ = some res → ∀ (H : Heap) (locs : List Loc) (ls : Array Slot), va_P D vwCl (wM ad cI cJ cZ σ) H → va_S (aM ad) s.heap H locs → lv_has ls 5 [(0, .ref (ad 0)), (1, .int v1)] → W p l e R s m args below meth c H locs 0 0 (MQ below (va_Qv (fun (u : SS) => u = res) (fun u t => va_P D vwCl (wM ad cI cJ cZ u) t.heap) (aM ad)) args s 0 0 (aM ad)) (F0 m 124 ls []) := by
  obtain ⟨hx, hb, hr, hml, hown, hts, hlk⟩ := id hm
  intro n
  induction n with
  | zero =>
    intro _ _ hf
    cases hf
  | succ n hk124 =>
    intro v1 σ hf H locs ls hP hS hl
    rw [p_X8_findComes_124] at hf
    try dsimp only at hf
    refine lv_iload_n hx hb dX8_findComes_124 rfl (lv_at hl 1 rfl) ?_
    refine lv_aload_n hx hb dX8_findComes_125 rfl (lv_at hl 0 rfl) ?_
    refine va_get (D := D) (ci := 7) (v := .int (σ.1 0 5)) (C := RX8) (T := TX8) (N := 50) hx hb hts in_X8_findComes_X8 hown hK hP 0 (wM_0 _ _ _ _ _) rfl 5 (by decide) (hts (.fieldLink RX8 131 "CallGraphsModel" "members" "I") (List.mem_of_getElem? (i := 1) rfl)) (fun _ h9 => h9) (fM_0_5 _ _) dX8_findComes_126 ?_
    refine lv_icmp_ge (tgt := 228) hx hb dX8_findComes_129 (by decide) (fun c_129 => ?_) (fun c_129 => ?_)
    · rw [if_pos c_129] at hf
      exact rt_v (wd := wM ad cI cJ cZ) hx hb hr hlk (Option.some.inj hf) hP hS dX8_findComes_228
    · rw [if_neg c_129] at hf
      refine lv_iconst (v := 0) hx hb dX8_findComes_132 (by decide) ?_
      refine lv_istore_n (lv' := [(2, .int 0), (0, .ref (ad 0)), (1, .int v1)]) hx hb dX8_findComes_133 rfl hl (by decide) rfl (fun ls hl => ?_)
      exact w_X8_findComes_134 hm hR hK hD (p_X8_findComes_124 n) hk124 100000 v1 0 σ hf _ _ _ hP hS (lv_sub hl [1, 2, 0] rfl)
def p_X8_findComes_2 : Nat → Int32 → SS → Option (SS)
  | 0, _, _ => none
  | n + 1, v1, σ => let k2 := p_X8_findComes_2 n; if (σ.1 0 5) ≤ v1 then p_X8_findComes_124 100000 0 σ else p_X8_findComes_12 k2 100000 v1 0 σ
set_option maxHeartbeats 4000000 in
set_option maxRecDepth 100000 in
theorem w_X8_findComes_2 {p : Program} {l : Launch} {e : Env} {R : Room} {s : State} {m : MethodId} {args : Array Value} {below : List Frame} {meth : Method} {c : Code} {D : va_G} {ad : Nat → Nat} {cI cJ cZ : ClassId} {res : SS} (hm : mx p s m args meth c cX8_findComes 5 none wsX8_findComes RX8) (hR : 0 ≤ R.frames ∧ 0 ≤ R.locals) (hK : va_K D vwCl (tyw cI cJ cZ) s) (hD : ∀ σ, va_D (aM ad) (wM ad cI cJ cZ σ)) : ∀ (n : Nat) (v1 : Int32) (σ : SS), p_X8_findComes_2 n v1 σ = some res → ∀ (H : Heap) (locs : List Loc) (ls : Array Slot), va_P D vwCl (wM ad cI cJ cZ σ) H → va_S (aM ad) s.heap H locs → lv_has ls 5 [(0, .ref (ad 0)), (1, .int v1)] → W p l e R s m args below meth c H locs 0 0 (MQ below (va_Qv (fun (u : SS) => u = res) (fun u t => va_P D vwCl (wM ad cI cJ cZ u) t.heap) (aM ad)) args s 0 0 (aM ad)) (F0 m 2 ls []) := by
  obtain ⟨hx, hb, hr, hml, hown, hts, hlk⟩ := id hm
  intro n
  induction n with
  | zero =>
    intro _ _ hf
    cases hf
  | succ n hk2 =>
    intro v1 σ hf H locs ls hP hS hl
    rw [p_X8_findComes_2] at hf
    try dsimp only at hf
    refine lv_iload_n hx hb dX8_findComes_2 rfl (lv_at hl 1 rfl) ?_
    refine lv_aload_n hx hb dX8_findComes_3 rfl (lv_at hl 0 rfl) ?_
    refine va_get (D := D) (ci := 7) (v := .int (σ.1 0 5)) (C := RX8) (T := TX8) (N := 50) hx hb hts in_X8_findComes_X8 hown hK hP 0 (wM_0 _ _ _ _ _) rfl 5 (by decide) (hts (.fieldLink RX8 131 "CallGraphsModel" "members" "I") (List.mem_of_getElem? (i := 1) rfl)) (fun _ h9 => h9) (fM_0_5 _ _) dX8_findComes_4 ?_
    refine lv_icmp_ge (tgt := 122) hx hb dX8_findComes_7 (by decide) (fun c_7 => ?_) (fun c_7 => ?_)
    · rw [if_pos c_7] at hf
      refine lv_iconst (v := 0) hx hb dX8_findComes_122 (by decide) ?_
      refine lv_istore_n (lv' := [(1, .int 0), (0, .ref (ad 0))]) hx hb dX8_findComes_123 rfl hl (by decide) rfl (fun ls hl => ?_)
      exact w_X8_findComes_124 hm hR hK hD 100000 0 σ hf _ _ _ hP hS (lv_sub hl [1, 0] rfl)
    · rw [if_neg c_7] at hf
      refine lv_iconst (v := 0) hx hb dX8_findComes_10 (by decide) ?_
      refine lv_istore_n (lv' := [(2, .int 0), (0, .ref (ad 0)), (1, .int v1)]) hx hb dX8_findComes_11 rfl hl (by decide) rfl (fun ls hl => ?_)
      exact w_X8_findComes_12 hm hR hK hD (p_X8_findComes_2 n) hk2 100000 v1 0 σ hf _ _ _ hP hS (lv_sub hl [1, 2, 0] rfl)
def p_X8_findComes_0 (σ : SS) : Option (SS) := p_X8_findComes_2 100000 0 σ
set_option maxHeartbeats 4000000 in
set_option maxRecDepth 100000 in
theorem w_X8_findComes_0 {p : Program} {l : Launch} {e : Env} {R : Room} {s : State} {m : MethodId} {args : Array Value} {below : List Frame} {meth : Method} {c : Code} {D : va_G} {ad : Nat → Nat} {cI cJ cZ : ClassId} {res : SS} (hm : mx p s m args meth c cX8_findComes 5 none wsX8_findComes RX8) (hR : 0 ≤ R.frames ∧ 0 ≤ R.locals) (hK : va_K D vwCl (tyw cI cJ cZ) s) (hD : ∀ σ, va_D (aM ad) (wM ad cI cJ cZ σ)) (σ : SS) (hf : p_X8_findComes_0 σ = some res) (H : Heap) (locs : List Loc) (ls : Array Slot) (hP : va_P D vwCl (wM ad cI cJ cZ σ) H) (hS : va_S (aM ad) s.heap H locs) (hl : lv_has ls 5 [(0, .ref (ad 0))]) : W p l e R s m args below meth c H locs 0 0 (MQ below (va_Qv (fun (u : SS) => u = res) (fun u t => va_P D vwCl (wM ad cI cJ cZ u) t.heap) (aM ad)) args s 0 0 (aM ad)) (F0 m 0 ls []) := by
  obtain ⟨hx, hb, hr, hml, hown, hts, hlk⟩ := id hm
  unfold p_X8_findComes_0 at hf
  refine lv_iconst (v := 0) hx hb dX8_findComes_0 (by decide) ?_
  refine lv_istore_n (lv' := [(1, .int 0), (0, .ref (ad 0))]) hx hb dX8_findComes_1 rfl hl (by decide) rfl (fun ls hl => ?_)
  exact w_X8_findComes_2 hm hR hK hD 100000 0 σ hf _ _ _ hP hS (lv_sub hl [1, 0] rfl)
theorem hd_X8_findComes : yX8_findComes.cls = RX8 ∧ yX8_findComes.cls ≠ "java/lang/invoke/MethodHandle" ∧ yX8_findComes.cls ≠ "java/lang/invoke/VarHandle" ∧ (parseMethodDescriptor yX8_findComes.desc).map (fun d => d.parameters.length) = some 0 := by decide +kernel
set_option maxHeartbeats 4000000 in
set_option maxRecDepth 100000 in
theorem c_X8_findComes (l : Launch) (D : va_G) (ad : Nat → Nat) (cI cJ cZ : ClassId) (σ : SS) {res : SS} (hf : p_X8_findComes_0 σ = some res) : Met l yX8_findComes wsX8_findComes ({ frames := 0, cells := 0, slots := 0, locals := 0 } : Room) (PW D (tyw cI cJ cZ) (wM ad cI cJ cZ σ) [.ref (ad 0)]) (va_Qv (fun (u : SS) => u = res) (fun u t => va_P D vwCl (wM ad cI cJ cZ u) t.heap) (aM ad)) 0 0 (aM ad) := by
  refine Met.ofW (cc := cX8_findComes) (maxL := 5) (ret := none) (by decide) rfl ?_
  intro p e s m args below meth c s₁ B hml hv
  obtain ⟨rfl, hP, hK, hD0⟩ := hv
  have hD : ∀ σ, va_D (aM ad) (wM ad cI cJ cZ σ) := fun σ => wd_D hD0 (wM_map _ _ _ _ _) (wM_map _ _ _ _ _)
  have hm : mx p s m _ meth c cX8_findComes 5 none wsX8_findComes RX8 := ⟨B.exec, B.bytes, B.returns, hml, findClass_of_methodNamed B.named, atoms_spec (ws := wsX8_findComes) B.pre, B.notSynchronized⟩
  have hl := lv_entry ([.ref (ad 0)]) (n := 5) (Nat.le_of_ble_eq_true rfl)
  rw [lg_entry_eq]
  generalize (lg_sl ([.ref (ad 0)]) ++ List.replicate (5 - (lg_sl ([.ref (ad 0)])).length) Slot.unset).toArray = ls at hl ⊢
  exact w_X8_findComes_0 hm ⟨Nat.le_refl _, Nat.le_refl _⟩ hK hD σ hf _ _ _ hP va_S.rf hl
/-! CallGraphsModel.freshen()V -/
theorem in_X8_freshen_X8 : ∀ w ∈ u_ws RX8 TX8 50, w ∈ wsX8_freshen := fun w h => List.mem_cons_of_mem _ (List.mem_append_right _ h)
def p_X8_freshen_48 (k15 : Int32 → SS → Option (SS)) (v1 : Int32) (t0 : Int32) (t1 : Int32) (σ : SS) : Option (SS) := oi t1 48 (ob t0 (os (sI σ 14 (t1.toNatClampNeg) t0) (fun s_48 => k15 (v1 + 1) s_48)))
set_option maxHeartbeats 4000000 in
set_option maxRecDepth 100000 in
theorem w_X8_freshen_48 {p : Program} {l : Launch} {e : Env} {R : Room} {s : State} {m : MethodId} {args : Array Value} {below : List Frame} {meth : Method} {c : Code} {D : va_G} {ad : Nat → Nat} {cI cJ cZ : ClassId} {res : SS} (hm : mx p s m args meth c cX8_freshen 3 none wsX8_freshen RX8) (hR : 6 ≤ R.frames ∧ 153 ≤ R.locals) (hK : va_K D vwCl (tyw cI cJ cZ) s) (hD : ∀ σ, va_D (aM ad) (wM ad cI cJ cZ σ)) (k15 : Int32 → SS → Option (SS)) (hk15 : ∀ (v1 : Int32) (σ : SS), k15 v1 σ = some res → ∀ (H : Heap) (locs : List Loc) (ls : Array Slot), va_P D vwCl (wM ad cI cJ cZ σ) H → va_S (aM ad) s.heap H locs → lv_has ls 3 [(0, .ref (ad 0)), (1, .int v1)] → W p l e R s m args below meth c H locs 0 0 (MQ below (va_Qv (fun (u : SS) => u = res) (fun u t => va_P D vwCl (wM ad cI cJ cZ u) t.heap) (aM ad)) args s 0 0 (aM ad)) (F0 m 15 ls [])) (v1 : Int32) (t0 : Int32) (t1 : Int32) (σ : SS) (hf : p_X8_freshen_48 k15 v1 t0 t1 σ = some res) (H : Heap) (locs : List Loc) (ls : Array Slot) (hP : va_P D vwCl (wM ad cI cJ cZ σ) H) (hS : va_S (aM ad) s.heap H locs) (hl : lv_has ls 3 [(0, .ref (ad 0)), (1, .int v1)]) : W p l e R s m args below meth c H locs 0 0 (MQ below (va_Qv (fun (u : SS) => u = res) (fun u t => va_P D vwCl (wM ad cI cJ cZ u) t.heap) (aM ad)) args s 0 0 (aM ad)) (F0 m 48 ls [.int t0, .int t1, .ref (ad 14)]) := by
  obtain ⟨hx, hb, hr, hml, hown, hts, hlk⟩ := id hm
  unfold p_X8_freshen_48 at hf
  obtain ⟨h_48, hf⟩ := oi_e hf
  obtain ⟨hb_48, hf⟩ := ob_e hf
  refine va_zast hx hb hK hP (hD _) hS 14 2 (wM_14 _ _ _ _ _) rfl h_48 dX8_freshen_48 (fun H locs hP _ hS => ?_)
  rw [nb_a hb_48] at hP
  have hP := wM_s14 hP
  obtain ⟨s_48, es_48, hf⟩ := os_e hf
  rw [← es_48] at hP
  refine lv_iinc (v := (v1 + 1)) (lv' := [(1, .int (v1 + 1)), (0, .ref (ad 0))]) hx hb dX8_freshen_49 hl (k := 1) rfl rfl (by decide) rfl (fun ls hl => ?_)
  refine lv_goto (tgt := 15) hx hb dX8_freshen_52 (by decide) ?_
  exact hk15 (v1 + 1) s_48 hf _ _ _ hP hS (lv_sub hl [1, 0] rfl)
def p_X8_freshen_47 (k15 : Int32 → SS → Option (SS)) (v1 : Int32) (t0 : Int32) (σ : SS) : Option (SS) := p_X8_freshen_48 k15 v1 0 t0 σ
set_option maxHeartbeats 4000000 in
set_option maxRecDepth 100000 in
theorem w_X8_freshen_47 {p : Program} {l : Launch} {e : Env} {R : Room} {s : State} {m : MethodId} {args : Array Value} {below : List Frame} {meth : Method} {c : Code} {D : va_G} {ad : Nat → Nat} {cI cJ cZ : ClassId} {res : SS} (hm : mx p s m args meth c cX8_freshen 3 none wsX8_freshen RX8) (hR : 6 ≤ R.frames ∧ 153 ≤ R.locals) (hK : va_K D vwCl (tyw cI cJ cZ) s) (hD : ∀ σ, va_D (aM ad) (wM ad cI cJ cZ σ)) (k15 : Int32 → SS → Option (SS)) (hk15 : ∀ (v1 : Int32) (σ : SS), k15 v1 σ = some res → ∀ (H : Heap) (locs : List Loc) (ls : Array Slot), va_P D vwCl (wM ad cI cJ cZ σ) H → va_S (aM ad) s.heap H locs → lv_has ls 3 [(0, .ref (ad 0)), (1, .int v1)] → W p l e R s m args below meth c H locs 0 0 (MQ below (va_Qv (fun (u : SS) => u = res) (fun u t => va_P D vwCl (wM ad cI cJ cZ u) t.heap) (aM ad)) args s 0 0 (aM ad)) (F0 m 15 ls [])) (v1 : Int32) (t0 : Int32) (σ : SS) (hf : p_X8_freshen_47 k15 v1 t0 σ = some res) (H : Heap) (locs : List Loc) (ls : Array Slot) (hP : va_P D vwCl (wM ad cI cJ cZ σ) H) (hS : va_S (aM ad) s.heap H locs) (hl : lv_has ls 3 [(0, .ref (ad 0)), (1, .int v1)]) : W p l e R s m args below meth c H locs 0 0 (MQ below (va_Qv (fun (u : SS) => u = res) (fun u t => va_P D vwCl (wM ad cI cJ cZ u) t.heap) (aM ad)) args s 0 0 (aM ad)) (F0 m 47 ls [.int t0, .ref (ad 14)]) := by
  obtain ⟨hx, hb, hr, hml, hown, hts, hlk⟩ := id hm
  unfold p_X8_freshen_47 at hf
  refine lv_iconst (v := 0) hx hb dX8_freshen_47 (by decide) ?_
  exact w_X8_freshen_48 hm hR hK hD k15 hk15 v1 0 t0 σ hf _ _ _ hP hS (lv_sub hl [0, 1] rfl)
def p_X8_freshen_218 (k154 : SS → Option (SS)) (k168 : Int32 → SS → Option (SS)) (v1 : Int32) (σ : SS) : Option (SS) := k168 (v1 + 1) σ
set_option maxHeartbeats 4000000 in
set_option maxRecDepth 100000 in
theorem w_X8_freshen_218 {p : Program} {l : Launch} {e : Env} {R : Room} {s : State} {m : MethodId} {args : Array Value} {below : List Frame} {meth : Method} {c : Code} {D : va_G} {ad : Nat → Nat} {cI cJ cZ : ClassId} {res : SS} (hm : mx p s m args meth c cX8_freshen 3 none wsX8_freshen RX8) (hR : 6 ≤ R.frames ∧ 153 ≤ R.locals) (hK : va_K D vwCl (tyw cI cJ cZ) s) (hD : ∀ σ, va_D (aM ad) (wM ad cI cJ cZ σ)) (k154 : SS → Option (SS)) (hk154 : ∀ (σ : SS), k154 σ = some res → ∀ (H : Heap) (locs : List Loc) (ls : Array Slot), va_P D vwCl (wM ad cI cJ cZ σ) H → va_S (aM ad) s.heap H locs → lv_has ls 3 [(0, .ref (ad 0))] → W p l e R s m args below meth c H locs 0 0 (MQ below (va_Qv (fun (u : SS) => u = res) (fun u t => va_P D vwCl (wM ad cI cJ cZ u) t.heap) (aM ad)) args s 0 0 (aM ad)) (F0 m 154 ls [])) (k168 : Int32 → SS → Option (SS)) (hk168 : ∀ (v1 : Int32) (σ : SS), k168 v1 σ = some res → ∀ (H : Heap) (locs : List Loc) (ls : Array Slot), va_P D vwCl (wM ad cI cJ cZ σ) H → va_S (aM ad) s.heap H locs → lv_has ls 3 [(0, .ref (ad 0)), (1, .int v1)] → W p l e R s m args below meth c H locs 0 0 (MQ below (va_Qv (fun (u : SS) => u = res) (fun u t => va_P D vwCl (wM ad cI cJ cZ u) t.heap) (aM ad)) args s 0 0 (aM ad)) (F0 m 168 ls [])) (v1 : Int32) (σ : SS) (hf : p_X8_freshen_218 k154 k168 v1 σ = some res) (H : Heap) (locs : List Loc) (ls : Array Slot) (hP : va_P D vwCl (wM ad cI cJ cZ σ) H) (hS : va_S (aM ad) s.heap H locs) (hl : lv_has ls 3 [(0, .ref (ad 0)), (1, .int v1)]) : W p l e R s m args below meth c H locs 0 0 (MQ below (va_Qv (fun (u : SS) => u = res) (fun u t => va_P D vwCl (wM ad cI cJ cZ u) t.heap) (aM ad)) args s 0 0 (aM ad)) (F0 m 218 ls []) := by
  obtain ⟨hx, hb, hr, hml, hown, hts, hlk⟩ := id hm
  unfold p_X8_freshen_218 at hf
  refine lv_iinc (v := (v1 + 1)) (lv' := [(1, .int (v1 + 1)), (0, .ref (ad 0))]) hx hb dX8_freshen_218 hl (k := 1) rfl rfl (by decide) rfl (fun ls hl => ?_)
  refine lv_goto (tgt := 168) hx hb dX8_freshen_221 (by decide) ?_
  exact hk168 (v1 + 1) σ hf _ _ _ hP hS (lv_sub hl [1, 0] rfl)
def p_X8_freshen_178 (k154 : SS → Option (SS)) (k168 : Int32 → SS → Option (SS)) : Nat → Int32 → Int32 → SS → Option (SS)
  | 0, _, _, _ => none
  | n + 1, v1, v2, σ => let k178 := p_X8_freshen_178 k154 k168 n; oi v1 48 (if (σ.1 9 v1.toNatClampNeg) ≤ v2 then p_X8_freshen_218 k154 k168 v1 σ else oi v1 48 (if (σ.1 14 v1.toNatClampNeg) = 0 then p_X8_freshen_218 k154 k168 v1 σ else oi ((24 * v1) + v2) 1152 (oc (p_X8_follow_0 (σ.1 10 ((24 * v1) + v2).toNatClampNeg) σ) (fun r_209 => k178 v1 (v2 + 1) r_209))))
set_option maxHeartbeats 4000000 in
set_option maxRecDepth 100000 in
theorem w_X8_freshen_178 {p : Program} {l : Launch} {e : Env} {R : Room} {s : State} {m : MethodId} {args : Array Value} {below : List Frame} {meth : Method} {c : Code} {D : va_G} {ad : Nat → Nat} {cI cJ cZ : ClassId} {res : SS} (hm : mx p s m args meth c cX8_freshen 3 none wsX8_freshen RX8) (hR : 6 ≤ R.frames ∧ 153 ≤ R.locals) (hK : va_K D vwCl (tyw cI cJ cZ) s) (hD : ∀ σ, va_D (aM ad) (wM ad cI cJ cZ σ)) (k154 : SS → Option (SS)) (hk154 : ∀ (σ : SS), k154 σ = some res → ∀ (H : Heap) (locs : List Loc) (ls : Array Slot), va_P D vwCl (wM ad cI cJ cZ σ) H → va_S (aM ad) s.heap H locs → lv_has ls 3 [(0, .ref (ad 0))] → W p l e R s m args below meth c H locs 0 0 (MQ below (va_Qv (fun (u : SS) => u = res) (fun u t => va_P D vwCl (wM ad cI cJ cZ u) t.heap) (aM ad)) args s 0 0 (aM ad)) (F0 m 154 ls [])) (k168 : Int32 → SS → Option (SS)) (hk168 : ∀ (v1 : Int32) (σ : SS), k168 v1 σ = some res → ∀ (H : Heap) (locs : List Loc) (ls : Array Slot), va_P D vwCl (wM ad cI cJ cZ σ) H → va_S (aM ad) s.heap H locs → lv_has ls 3 [(0, .ref (ad 0)), (1, .int v1)] → W p l e R s m args below meth c H locs 0 0 (MQ below (va_Qv (fun (u : SS) => u = res) (fun u t => va_P D vwCl (wM ad cI cJ cZ u) t.heap) (aM ad)) args s 0 0 (aM ad)) (F0 m 168 ls [])) : ∀ (n : Nat) (v1 : Int32) (v2 : Int32) (σ : SS), p_X8_freshen_178 k154 k168 n v1 v2 σ = some res → ∀ (H : Heap) (locs : List Loc) (ls : Array Slot), va_P D vwCl (wM ad cI cJ cZ σ) H → va_S (aM ad) s.heap H locs → lv_has ls 3 [(0, .ref (ad 0)), (1, .int v1), (2, .int v2)] → W p l e R s m args below meth c H locs 0 0 (MQ below (va_Qv (fun (u : SS) => u = res) (fun u t => va_P D vwCl (wM ad cI cJ cZ u) t.heap) (aM ad)) args s 0 0 (aM ad)) (F0 m 178 ls []) := by
  obtain ⟨hx, hb, hr, hml, hown, hts, hlk⟩ := id hm
  intro n
  induction n with
  | zero =>
    intro _ _ _ hf
    cases hf
  | succ n hk178 =>
    intro v1 v2 σ hf H locs ls hP hS hl
    rw [p_X8_freshen_178] at hf
    try dsimp only at hf
    refine lv_iload_n hx hb dX8_freshen_178 rfl (lv_at hl 2 rfl) ?_
    refine lv_aload_n hx hb dX8_freshen_179 rfl (lv_at hl 0 rfl) ?_
    refine va_get (D := D) (ci := 7) (v := .ref (ad 9)) (C := RX8) (T := TX8) (N := 50) hx hb hts in_X8_freshen_X8 hown hK hP 0 (wM_0 _ _ _ _ _) rfl 10 (by decide) (hts (.fieldLink RX8 35 "CallGraphsModel" "opMany" "[I") (List.mem_of_getElem? (i := 11) rfl)) (fun _ h9 => h9) (fM_0_10 _ _) dX8_freshen_180 ?_
    refine lv_iload_n hx hb dX8_freshen_183 rfl (lv_at hl 1 rfl) ?_
    obtain ⟨h_184, hf⟩ := oi_e hf
    refine va_iald hx hb hK hP 9 0 (wM_9 _ _ _ _ _) rfl h_184 dX8_freshen_184 ?_
    refine lv_icmp_ge (tgt := 218) hx hb dX8_freshen_185 (by decide) (fun c_185 => ?_) (fun c_185 => ?_)
    · rw [if_pos c_185] at hf
      exact w_X8_freshen_218 hm hR hK hD k154 hk154 k168 hk168 v1 σ hf _ _ _ hP hS (lv_sub hl [0, 1] rfl)
    · rw [if_neg c_185] at hf
      refine lv_aload_n hx hb dX8_freshen_188 rfl (lv_at hl 0 rfl) ?_
      refine va_get (D := D) (ci := 7) (v := .ref (ad 14)) (C := RX8) (T := TX8) (N := 50) hx hb hts in_X8_freshen_X8 hown hK hP 0 (wM_0 _ _ _ _ _) rfl 18 (by decide) (hts (.fieldLink RX8 50 "CallGraphsModel" "reached" "[Z") (List.mem_of_getElem? (i := 2) rfl)) (fun _ h9 => h9) (fM_0_18 _ _) dX8_freshen_189 ?_
      refine lv_iload_n hx hb dX8_freshen_192 rfl (lv_at hl 1 rfl) ?_
      obtain ⟨h_193, hf⟩ := oi_e hf
      refine va_zald hx hb hK hP 14 2 (wM_14 _ _ _ _ _) rfl h_193 dX8_freshen_193 ?_
      refine lv_if_eq (tgt := 218) hx hb dX8_freshen_194 (by decide) (fun c_194 => ?_) (fun c_194 => ?_)
      · rw [if_pos c_194] at hf
        exact w_X8_freshen_218 hm hR hK hD k154 hk154 k168 hk168 v1 σ hf _ _ _ hP hS (lv_sub hl [0, 1] rfl)
      · rw [if_neg c_194] at hf
        refine lv_aload_n hx hb dX8_freshen_197 rfl (lv_at hl 0 rfl) ?_
        refine lv_aload_n hx hb dX8_freshen_198 rfl (lv_at hl 0 rfl) ?_
        refine va_get (D := D) (ci := 7) (v := .ref (ad 10)) (C := RX8) (T := TX8) (N := 50) hx hb hts in_X8_freshen_X8 hown hK hP 0 (wM_0 _ _ _ _ _) rfl 11 (by decide) (hts (.fieldLink RX8 38 "CallGraphsModel" "opAt" "[I") (List.mem_of_getElem? (i := 12) rfl)) (fun _ h9 => h9) (fM_0_11 _ _) dX8_freshen_199 ?_
        refine lv_bipush (v := 24) hx hb dX8_freshen_202 (by decide) ?_
        refine lv_iload_n hx hb dX8_freshen_204 rfl (lv_at hl 1 rfl) ?_
        refine lv_imul hx hb dX8_freshen_205 ?_
        refine lv_iload_n hx hb dX8_freshen_206 rfl (lv_at hl 2 rfl) ?_
        refine lv_iadd hx hb dX8_freshen_207 ?_
        obtain ⟨h_208, hf⟩ := oi_e hf
        refine va_iald hx hb hK hP 10 0 (wM_10 _ _ _ _ _) rfl h_208 dX8_freshen_208 ?_
        obtain ⟨r_209, hg_209, hf⟩ := oc_e hf
        refine mV_wv (wd := wM ad cI cJ cZ) (σ := σ) (As := [.int (σ.1 10 ((24 * v1) + v2).toNatClampNeg)]) (rest := []) ⟨hx, hb, hml, hown, hts⟩ hK hP hD hS (c_X8_follow l D ad cI cJ cZ σ (σ.1 10 ((24 * v1) + v2).toNatClampNeg) hg_209) (cwV 1 hts gX8_freshen_X8_follow rfl rfl rfl hd_X8_follow ⟨Nat.le_trans (Nat.le_of_ble_eq_true rfl) hR.1, Nat.le_trans (Nat.le_of_ble_eq_true rfl) hR.2⟩) rfl (wM_0 _ _ _ _ _) rfl hl.1 rfl (Nat.le_of_ble_eq_true rfl) dX8_freshen_209 (fun H locs hP hS => ?_)
        refine lv_iinc (v := (v2 + 1)) (lv' := [(2, .int (v2 + 1)), (0, .ref (ad 0)), (1, .int v1)]) hx hb dX8_freshen_212 hl (k := 2) rfl rfl (by decide) rfl (fun ls hl => ?_)
        refine lv_goto (tgt := 178) hx hb dX8_freshen_215 (by decide) ?_
        exact hk178 v1 (v2 + 1) r_209 hf _ _ _ hP hS (lv_sub hl [1, 2, 0] rfl)
def p_X8_freshen_168 (k154 : SS → Option (SS)) : Nat → Int32 → SS → Option (SS)
  | 0, _, _ => none
  | n + 1, v1, σ => let k168 := p_X8_freshen_168 k154 n; if (σ.1 0 5) ≤ v1 then k154 σ else p_X8_freshen_178 k154 k168 100000 v1 0 σ
set_option maxHeartbeats 4000000 in
set_option maxRecDepth 100000 in
theorem w_X8_freshen_168 {p : Program} {l : Launch} {e : Env} {R : Room} {s : State} {m : MethodId} {args : Array Value} {below : List Frame} {meth : Method} {c : Code} {D : va_G} {ad : Nat → Nat} {cI cJ cZ : ClassId} {res : SS} (hm : mx p s m args meth c cX8_freshen 3 none wsX8_freshen RX8) (hR : 6 ≤ R.frames ∧ 153 ≤ R.locals) (hK : va_K D vwCl (tyw cI cJ cZ) s) (hD : ∀ σ, va_D (aM ad) (wM ad cI cJ cZ σ)) (k154 : SS → Option (SS)) (hk154 : ∀ (σ : SS), k154 σ = some res → ∀ (H : Heap) (locs : List Loc) (ls : Array Slot), va_P D vwCl (wM ad cI cJ cZ σ) H → va_S (aM ad) s.heap H locs → lv_has ls 3 [(0, .ref (ad 0))] → W p l e R s m args below meth c H locs 0 0 (MQ below (va_Qv (fun (u : SS) => u = res) (fun u t => va_P D vwCl (wM ad cI cJ cZ u) t.heap) (aM ad)) args s 0 0 (aM ad)) (F0 m 154 ls [])) : ∀ (n : Nat) (v1 : Int32) (σ : SS), p_X8_freshen_168 k154 n v1 σ = some res → ∀ (H : Heap) (locs : List Loc) (ls : Array Slot), va_P D vwCl (wM ad cI cJ cZ σ) H → va_S (aM ad) s.heap H locs → lv_has ls 3 [(0, .ref (ad 0)), (1, .int v1)] → W p l e R s m args below meth c H locs 0 0 (MQ below (va_Qv (fun (u : SS) => u = res) (fun u t => va_P D vwCl (wM ad cI cJ cZ u) t.heap) (aM ad)) args s 0 0 (aM ad)) (F0 m 168 ls []) := by
  obtain ⟨hx, hb, hr, hml, hown, hts, hlk⟩ := id hm
  intro n
  induction n with
  | zero =>
    intro _ _ hf
    cases hf
  | succ n hk168 =>
    intro v1 σ hf H locs ls hP hS hl
    rw [p_X8_freshen_168] at hf
    try dsimp only at hf
    refine lv_iload_n hx hb dX8_freshen_168 rfl (lv_at hl 1 rfl) ?_
    refine lv_aload_n hx hb dX8_freshen_169 rfl (lv_at hl 0 rfl) ?_
    refine va_get (D := D) (ci := 7) (v := .int (σ.1 0 5)) (C := RX8) (T := TX8) (N := 50) hx hb hts in_X8_freshen_X8 hown hK hP 0 (wM_0 _ _ _ _ _) rfl 5 (by decide) (hts (.fieldLink RX8 131 "CallGraphsModel" "members" "I") (List.mem_of_getElem? (i := 3) rfl)) (fun _ h9 => h9) (fM_0_5 _ _) dX8_freshen_170 ?_
    refine lv_icmp_ge (tgt := 224) hx hb dX8_freshen_173 (by decide) (fun c_173 => ?_) (fun c_173 => ?_)
    · rw [if_pos c_173] at hf
      refine lv_goto (tgt := 154) hx hb dX8_freshen_224 (by decide) ?_
      exact hk154 σ hf _ _ _ hP hS (lv_sub hl [0] rfl)
    · rw [if_neg c_173] at hf
      refine lv_iconst (v := 0) hx hb dX8_freshen_176 (by decide) ?_
      refine lv_istore_n (lv' := [(2, .int 0), (0, .ref (ad 0)), (1, .int v1)]) hx hb dX8_freshen_177 rfl hl (by decide) rfl (fun ls hl => ?_)
      exact w_X8_freshen_178 hm hR hK hD k154 hk154 (p_X8_freshen_168 k154 n) hk168 100000 v1 0 σ hf _ _ _ hP hS (lv_sub hl [1, 2, 0] rfl)
def p_X8_freshen_154 : Nat → SS → Option (SS)
  | 0, _ => none
  | n + 1, σ => let k154 := p_X8_freshen_154 n; if (σ.1 0 17) = 0 then oc (p_X8_findComes_0 σ) (fun r_228 => some r_228) else os (sI σ 0 17 0) (fun s_163 => p_X8_freshen_168 k154 100000 0 s_163)
set_option maxHeartbeats 4000000 in
set_option maxRecDepth 100000 in
theorem w_X8_freshen_154 {p : Program} {l : Launch} {e : Env} {R : Room} {s : State} {m : MethodId} {args : Array Value} {below : List Frame} {meth : Method} {c : Code} {D : va_G} {ad : Nat → Nat} {cI cJ cZ : ClassId} {res : SS} (hm : mx p s m args meth c cX8_freshen 3 none wsX8_freshen RX8) (hR : 6 ≤ R.frames ∧ 153 ≤ R.locals) (hK : va_K D vwCl (tyw cI cJ cZ) s) (hD : ∀ σ, va_D (aM ad) (wM ad cI cJ cZ σ)) : ∀ (n : Nat) (σ : SS), p_X8_freshen_154 n σ = some res → ∀ (H : Heap) (locs : List Loc) (ls : Array Slot), va_P D vwCl (wM ad cI cJ cZ σ) H → va_S (aM ad) s.heap H locs → lv_has ls 3 [(0, .ref (ad 0))] → W p l e R s m args below meth c H locs 0 0 (MQ below (va_Qv (fun (u : SS) => u = res) (fun u t => va_P D vwCl (wM ad cI cJ cZ u) t.heap) (aM ad)) args s 0 0 (aM ad)) (F0 m 154 ls []) := by
  obtain ⟨hx, hb, hr, hml, hown, hts, hlk⟩ := id hm
  intro n
  induction n with
  | zero =>
    intro _ hf
    cases hf
  | succ n hk154 =>
    intro σ hf H locs ls hP hS hl
    rw [p_X8_freshen_154] at hf
    try dsimp only at hf
    refine lv_aload_n hx hb dX8_freshen_154 rfl (lv_at hl 0 rfl) ?_
    refine va_get (D := D) (ci := 7) (v := .int (σ.1 0 17)) (C := RX8) (T := TX8) (N := 50) hx hb hts in_X8_freshen_X8 hown hK hP 0 (wM_0 _ _ _ _ _) rfl 17 (by decide) (hts (.fieldLink RX8 186 "CallGraphsModel" "grew" "Z") (List.mem_of_getElem? (i := 10) rfl)) (fun _ h9 => h9) (fM_0_17 _ _) dX8_freshen_155 ?_
    refine lv_if_eq (tgt := 227) hx hb dX8_freshen_158 (by decide) (fun c_158 => ?_) (fun c_158 => ?_)
    · rw [if_pos c_158] at hf
      refine lv_aload_n hx hb dX8_freshen_227 rfl (lv_at hl 0 rfl) ?_
      obtain ⟨r_228, hg_228, hf⟩ := oc_e hf
      refine mV_wv (wd := wM ad cI cJ cZ) (σ := σ) (As := []) (rest := []) ⟨hx, hb, hml, hown, hts⟩ hK hP hD hS (c_X8_findComes l D ad cI cJ cZ σ hg_228) (cwV 0 hts gX8_freshen_X8_findComes rfl rfl rfl hd_X8_findComes ⟨Nat.le_trans (Nat.le_of_ble_eq_true rfl) hR.1, Nat.le_trans (Nat.le_of_ble_eq_true rfl) hR.2⟩) rfl (wM_0 _ _ _ _ _) rfl hl.1 rfl (Nat.le_of_ble_eq_true rfl) dX8_freshen_228 (fun H locs hP hS => ?_)
      exact rt_v (wd := wM ad cI cJ cZ) hx hb hr hlk (Option.some.inj hf) hP hS dX8_freshen_231
    · rw [if_neg c_158] at hf
      refine lv_aload_n hx hb dX8_freshen_161 rfl (lv_at hl 0 rfl) ?_
      refine lv_iconst (v := 0) hx hb dX8_freshen_162 (by decide) ?_
      refine va_put (D := D) (ci := 7) (v := .int 0) (ty := .boolean) (C := RX8) (T := TX8) (N := 50) hx hb hts in_X8_freshen_X8 tyX8 tyX8_ok nmX8 hown hK hP (hD _) hS 0 (wM_0 _ _ _ _ _) rfl 17 (by decide) (hts (.fieldLink RX8 186 "CallGraphsModel" "grew" "Z") (List.mem_of_getElem? (i := 10) rfl)) (fun _ h9 => h9) rfl (tyX8_ok 17 (by decide)) (nb_n (Or.inl rfl)) (nb_f (Or.inl rfl)) (Nat.le_of_ble_eq_true rfl) dX8_freshen_163 (fun H locs hP _ hS => ?_)
      have hP := wM_p0_17 hP
      obtain ⟨s_163, es_163, hf⟩ := os_e hf
      rw [← es_163] at hP
      refine lv_iconst (v := 0) hx hb dX8_freshen_166 (by decide) ?_
      refine lv_istore_n (lv' := [(1, .int 0), (0, .ref (ad 0))]) hx hb dX8_freshen_167 rfl hl (by decide) rfl (fun ls hl => ?_)
      exact w_X8_freshen_168 hm hR hK hD (p_X8_freshen_154 n) hk154 100000 0 s_163 hf _ _ _ hP hS (lv_sub hl [1, 0] rfl)
def p_X8_freshen_129 : Nat → Int32 → SS → Option (SS)
  | 0, _, _ => none
  | n + 1, v1, σ => let k129 := p_X8_freshen_129 n; if 640 ≤ v1 then os (sI σ 0 17 1) (fun s_151 => p_X8_freshen_154 100000 s_151) else oi v1 640 (os (sI σ 19 (v1.toNatClampNeg) 0) (fun s_142 => k129 (v1 + 1) s_142))
set_option maxHeartbeats 4000000 in
set_option maxRecDepth 100000 in
theorem w_X8_freshen_129 {p : Program} {l : Launch} {e : Env} {R : Room} {s : State} {m : MethodId} {args : Array Value} {below : List Frame} {meth : Method} {c : Code} {D : va_G} {ad : Nat → Nat} {cI cJ cZ : ClassId} {res : SS} (hm : mx p s m args meth c cX8_freshen 3 none wsX8_freshen RX8) (hR : 6 ≤ R.frames ∧ 153 ≤ R.locals) (hK : va_K D vwCl (tyw cI cJ cZ) s) (hD : ∀ σ, va_D (aM ad) (wM ad cI cJ cZ σ)) : ∀ (n : Nat) (v1 : Int32) (σ : SS), p_X8_freshen_129 n v1 σ = some res → ∀ (H : Heap) (locs : List Loc) (ls : Array Slot), va_P D vwCl (wM ad cI cJ cZ σ) H → va_S (aM ad) s.heap H locs → lv_has ls 3 [(0, .ref (ad 0)), (1, .int v1)] → W p l e R s m args below meth c H locs 0 0 (MQ below (va_Qv (fun (u : SS) => u = res) (fun u t => va_P D vwCl (wM ad cI cJ cZ u) t.heap) (aM ad)) args s 0 0 (aM ad)) (F0 m 129 ls []) := by
  obtain ⟨hx, hb, hr, hml, hown, hts, hlk⟩ := id hm
  intro n
  induction n with
  | zero =>
    intro _ _ hf
    cases hf
  | succ n hk129 =>
    intro v1 σ hf H locs ls hP hS hl
    rw [p_X8_freshen_129] at hf
    try dsimp only at hf
    refine lv_iload_n hx hb dX8_freshen_129 rfl (lv_at hl 1 rfl) ?_
    refine lv_sipush (v := 640) hx hb dX8_freshen_130 (by decide) ?_
    refine lv_icmp_ge (tgt := 149) hx hb dX8_freshen_133 (by decide) (fun c_133 => ?_) (fun c_133 => ?_)
    · rw [if_pos c_133] at hf
      refine lv_aload_n hx hb dX8_freshen_149 rfl (lv_at hl 0 rfl) ?_
      refine lv_iconst (v := 1) hx hb dX8_freshen_150 (by decide) ?_
      refine va_put (D := D) (ci := 7) (v := .int 1) (ty := .boolean) (C := RX8) (T := TX8) (N := 50) hx hb hts in_X8_freshen_X8 tyX8 tyX8_ok nmX8 hown hK hP (hD _) hS 0 (wM_0 _ _ _ _ _) rfl 17 (by decide) (hts (.fieldLink RX8 186 "CallGraphsModel" "grew" "Z") (List.mem_of_getElem? (i := 10) rfl)) (fun _ h9 => h9) rfl (tyX8_ok 17 (by decide)) (nb_n (Or.inr rfl)) (nb_f (Or.inr rfl)) (Nat.le_of_ble_eq_true rfl) dX8_freshen_151 (fun H locs hP _ hS => ?_)
      have hP := wM_p0_17 hP
      obtain ⟨s_151, es_151, hf⟩ := os_e hf
      rw [← es_151] at hP
      exact w_X8_freshen_154 hm hR hK hD 100000 s_151 hf _ _ _ hP hS (lv_sub hl [0] rfl)
    · rw [if_neg c_133] at hf
      refine lv_aload_n hx hb dX8_freshen_136 rfl (lv_at hl 0 rfl) ?_
      refine va_get (D := D) (ci := 7) (v := .ref (ad 19)) (C := RX8) (T := TX8) (N := 50) hx hb hts in_X8_freshen_X8 hown hK hP 0 (wM_0 _ _ _ _ _) rfl 23 (by decide) (hts (.fieldLink RX8 65 "CallGraphsModel" "faultMany" "[I") (List.mem_of_getElem? (i := 9) rfl)) (fun _ h9 => h9) (fM_0_23 _ _) dX8_freshen_137 ?_
      refine lv_iload_n hx hb dX8_freshen_140 rfl (lv_at hl 1 rfl) ?_
      refine lv_iconst (v := 0) hx hb dX8_freshen_141 (by decide) ?_
      obtain ⟨h_142, hf⟩ := oi_e hf
      refine va_iast hx hb hK hP (hD _) hS 19 0 (wM_19 _ _ _ _ _) rfl h_142 dX8_freshen_142 (fun H locs hP _ hS => ?_)
      have hP := wM_s19 hP
      obtain ⟨s_142, es_142, hf⟩ := os_e hf
      rw [← es_142] at hP
      refine lv_iinc (v := (v1 + 1)) (lv' := [(1, .int (v1 + 1)), (0, .ref (ad 0))]) hx hb dX8_freshen_143 hl (k := 1) rfl rfl (by decide) rfl (fun ls hl => ?_)
      refine lv_goto (tgt := 129) hx hb dX8_freshen_146 (by decide) ?_
      exact hk129 (v1 + 1) s_142 hf _ _ _ hP hS (lv_sub hl [1, 0] rfl)
def p_X8_freshen_107 : Nat → Int32 → SS → Option (SS)
  | 0, _, _ => none
  | n + 1, v1, σ => let k107 := p_X8_freshen_107 n; if 7680 ≤ v1 then p_X8_freshen_129 100000 0 σ else oi v1 7680 (os (sI σ 18 (v1.toNatClampNeg) 0) (fun s_120 => k107 (v1 + 1) s_120))
set_option maxHeartbeats 4000000 in
set_option maxRecDepth 100000 in
theorem w_X8_freshen_107 {p : Program} {l : Launch} {e : Env} {R : Room} {s : State} {m : MethodId} {args : Array Value} {below : List Frame} {meth : Method} {c : Code} {D : va_G} {ad : Nat → Nat} {cI cJ cZ : ClassId} {res : SS} (hm : mx p s m args meth c cX8_freshen 3 none wsX8_freshen RX8) (hR : 6 ≤ R.frames ∧ 153 ≤ R.locals) (hK : va_K D vwCl (tyw cI cJ cZ) s) (hD : ∀ σ, va_D (aM ad) (wM ad cI cJ cZ σ)) : ∀ (n : Nat) (v1 : Int32) (σ : SS), p_X8_freshen_107 n v1 σ = some res → ∀ (H : Heap) (locs : List Loc) (ls : Array Slot), va_P D vwCl (wM ad cI cJ cZ σ) H → va_S (aM ad) s.heap H locs → lv_has ls 3 [(0, .ref (ad 0)), (1, .int v1)] → W p l e R s m args below meth c H locs 0 0 (MQ below (va_Qv (fun (u : SS) => u = res) (fun u t => va_P D vwCl (wM ad cI cJ cZ u) t.heap) (aM ad)) args s 0 0 (aM ad)) (F0 m 107 ls []) := by
  obtain ⟨hx, hb, hr, hml, hown, hts, hlk⟩ := id hm
  intro n
  induction n with
  | zero =>
    intro _ _ hf
    cases hf
  | succ n hk107 =>
    intro v1 σ hf H locs ls hP hS hl
    rw [p_X8_freshen_107] at hf
    try dsimp only at hf
    refine lv_iload_n hx hb dX8_freshen_107 rfl (lv_at hl 1 rfl) ?_
    refine lv_sipush (v := 7680) hx hb dX8_freshen_108 (by decide) ?_
    refine lv_icmp_ge (tgt := 127) hx hb dX8_freshen_111 (by decide) (fun c_111 => ?_) (fun c_111 => ?_)
    · rw [if_pos c_111] at hf
      refine lv_iconst (v := 0) hx hb dX8_freshen_127 (by decide) ?_
      refine lv_istore_n (lv' := [(1, .int 0), (0, .ref (ad 0))]) hx hb dX8_freshen_128 rfl hl (by decide) rfl (fun ls hl => ?_)
      exact w_X8_freshen_129 hm hR hK hD 100000 0 σ hf _ _ _ hP hS (lv_sub hl [1, 0] rfl)
    · rw [if_neg c_111] at hf
      refine lv_aload_n hx hb dX8_freshen_114 rfl (lv_at hl 0 rfl) ?_
      refine va_get (D := D) (ci := 7) (v := .ref (ad 18)) (C := RX8) (T := TX8) (N := 50) hx hb hts in_X8_freshen_X8 hown hK hP 0 (wM_0 _ _ _ _ _) rfl 22 (by decide) (hts (.fieldLink RX8 62 "CallGraphsModel" "calls" "[Z") (List.mem_of_getElem? (i := 8) rfl)) (fun _ h9 => h9) (fM_0_22 _ _) dX8_freshen_115 ?_
      refine lv_iload_n hx hb dX8_freshen_118 rfl (lv_at hl 1 rfl) ?_
      refine lv_iconst (v := 0) hx hb dX8_freshen_119 (by decide) ?_
      obtain ⟨h_120, hf⟩ := oi_e hf
      refine va_zast hx hb hK hP (hD _) hS 18 2 (wM_18 _ _ _ _ _) rfl h_120 dX8_freshen_120 (fun H locs hP _ hS => ?_)
      rw [nb_a (Or.inl rfl)] at hP
      have hP := wM_s18 hP
      obtain ⟨s_120, es_120, hf⟩ := os_e hf
      rw [← es_120] at hP
      refine lv_iinc (v := (v1 + 1)) (lv' := [(1, .int (v1 + 1)), (0, .ref (ad 0))]) hx hb dX8_freshen_121 hl (k := 1) rfl rfl (by decide) rfl (fun ls hl => ?_)
      refine lv_goto (tgt := 107) hx hb dX8_freshen_124 (by decide) ?_
      exact hk107 (v1 + 1) s_120 hf _ _ _ hP hS (lv_sub hl [1, 0] rfl)
def p_X8_freshen_85 : Nat → Int32 → SS → Option (SS)
  | 0, _, _ => none
  | n + 1, v1, σ => let k85 := p_X8_freshen_85 n; if 192 ≤ v1 then p_X8_freshen_107 100000 0 σ else oi v1 192 (os (sI σ 17 (v1.toNatClampNeg) 0) (fun s_98 => k85 (v1 + 1) s_98))
set_option maxHeartbeats 4000000 in
set_option maxRecDepth 100000 in
theorem w_X8_freshen_85 {p : Program} {l : Launch} {e : Env} {R : Room} {s : State} {m : MethodId} {args : Array Value} {below : List Frame} {meth : Method} {c : Code} {D : va_G} {ad : Nat → Nat} {cI cJ cZ : ClassId} {res : SS} (hm : mx p s m args meth c cX8_freshen 3 none wsX8_freshen RX8) (hR : 6 ≤ R.frames ∧ 153 ≤ R.locals) (hK : va_K D vwCl (tyw cI cJ cZ) s) (hD : ∀ σ, va_D (aM ad) (wM ad cI cJ cZ σ)) : ∀ (n : Nat) (v1 : Int32) (σ : SS), p_X8_freshen_85 n v1 σ = some res → ∀ (H : Heap) (locs : List Loc) (ls : Array Slot), va_P D vwCl (wM ad cI cJ cZ σ) H → va_S (aM ad) s.heap H locs → lv_has ls 3 [(0, .ref (ad 0)), (1, .int v1)] → W p l e R s m args below meth c H locs 0 0 (MQ below (va_Qv (fun (u : SS) => u = res) (fun u t => va_P D vwCl (wM ad cI cJ cZ u) t.heap) (aM ad)) args s 0 0 (aM ad)) (F0 m 85 ls []) := by
  obtain ⟨hx, hb, hr, hml, hown, hts, hlk⟩ := id hm
  intro n
  induction n with
  | zero =>
    intro _ _ hf
    cases hf
  | succ n hk85 =>
    intro v1 σ hf H locs ls hP hS hl
    rw [p_X8_freshen_85] at hf
    try dsimp only at hf
    refine lv_iload_n hx hb dX8_freshen_85 rfl (lv_at hl 1 rfl) ?_
    refine lv_sipush (v := 192) hx hb dX8_freshen_86 (by decide) ?_
    refine lv_icmp_ge (tgt := 105) hx hb dX8_freshen_89 (by decide) (fun c_89 => ?_) (fun c_89 => ?_)
    · rw [if_pos c_89] at hf
      refine lv_iconst (v := 0) hx hb dX8_freshen_105 (by decide) ?_
      refine lv_istore_n (lv' := [(1, .int 0), (0, .ref (ad 0))]) hx hb dX8_freshen_106 rfl hl (by decide) rfl (fun ls hl => ?_)
      exact w_X8_freshen_107 hm hR hK hD 100000 0 σ hf _ _ _ hP hS (lv_sub hl [1, 0] rfl)
    · rw [if_neg c_89] at hf
      refine lv_aload_n hx hb dX8_freshen_92 rfl (lv_at hl 0 rfl) ?_
      refine va_get (D := D) (ci := 7) (v := .ref (ad 17)) (C := RX8) (T := TX8) (N := 50) hx hb hts in_X8_freshen_X8 hown hK hP 0 (wM_0 _ _ _ _ _) rfl 21 (by decide) (hts (.fieldLink RX8 59 "CallGraphsModel" "inBag" "[Z") (List.mem_of_getElem? (i := 7) rfl)) (fun _ h9 => h9) (fM_0_21 _ _) dX8_freshen_93 ?_
      refine lv_iload_n hx hb dX8_freshen_96 rfl (lv_at hl 1 rfl) ?_
      refine lv_iconst (v := 0) hx hb dX8_freshen_97 (by decide) ?_
      obtain ⟨h_98, hf⟩ := oi_e hf
      refine va_zast hx hb hK hP (hD _) hS 17 2 (wM_17 _ _ _ _ _) rfl h_98 dX8_freshen_98 (fun H locs hP _ hS => ?_)
      rw [nb_a (Or.inl rfl)] at hP
      have hP := wM_s17 hP
      obtain ⟨s_98, es_98, hf⟩ := os_e hf
      rw [← es_98] at hP
      refine lv_iinc (v := (v1 + 1)) (lv' := [(1, .int (v1 + 1)), (0, .ref (ad 0))]) hx hb dX8_freshen_99 hl (k := 1) rfl rfl (by decide) rfl (fun ls hl => ?_)
      refine lv_goto (tgt := 85) hx hb dX8_freshen_102 (by decide) ?_
      exact hk85 (v1 + 1) s_98 hf _ _ _ hP hS (lv_sub hl [1, 0] rfl)
def p_X8_freshen_57 : Nat → Int32 → SS → Option (SS)
  | 0, _, _ => none
  | n + 1, v1, σ => let k57 := p_X8_freshen_57 n; if 16 ≤ v1 then p_X8_freshen_85 100000 0 σ else oi v1 16 (os (sI σ 15 (v1.toNatClampNeg) 0) (fun s_69 => oi v1 16 (os (sI s_69 16 (v1.toNatClampNeg) 0) (fun s_76 => k57 (v1 + 1) s_76))))
set_option maxHeartbeats 4000000 in
set_option maxRecDepth 100000 in
theorem w_X8_freshen_57 {p : Program} {l : Launch} {e : Env} {R : Room} {s : State} {m : MethodId} {args : Array Value} {below : List Frame} {meth : Method} {c : Code} {D : va_G} {ad : Nat → Nat} {cI cJ cZ : ClassId} {res : SS} (hm : mx p s m args meth c cX8_freshen 3 none wsX8_freshen RX8) (hR : 6 ≤ R.frames ∧ 153 ≤ R.locals) (hK : va_K D vwCl (tyw cI cJ cZ) s) (hD : ∀ σ, va_D (aM ad) (wM ad cI cJ cZ σ)) : ∀ (n : Nat) (v1 : Int32) (σ : SS), p_X8_freshen_57 n v1 σ = some res → ∀ (H : Heap) (locs : List Loc) (ls : Array Slot), va_P D vwCl (wM ad cI cJ cZ σ) H → va_S (aM ad) s.heap H locs → lv_has ls 3 [(0, .ref (ad 0)), (1, .int v1)] → W p l e R s m args below meth c H locs 0 0 (MQ below (va_Qv (fun (u : SS) => u = res) (fun u t => va_P D vwCl (wM ad cI cJ cZ u) t.heap) (aM ad)) args s 0 0 (aM ad)) (F0 m 57 ls []) := by
  obtain ⟨hx, hb, hr, hml, hown, hts, hlk⟩ := id hm
  intro n
  induction n with
  | zero =>
    intro _ _ hf
    cases hf
  | succ n hk57 =>
    intro v1 σ hf H locs ls hP hS hl
    rw [p_X8_freshen_57] at hf
    try dsimp only at hf
    refine lv_iload_n hx hb dX8_freshen_57 rfl (lv_at hl 1 rfl) ?_
    refine lv_bipush (v := 16) hx hb dX8_freshen_58 (by decide) ?_
    refine lv_icmp_ge (tgt := 83) hx hb dX8_freshen_60 (by decide) (fun c_60 => ?_) (fun c_60 => ?_)
    · rw [if_pos c_60] at hf
      refine lv_iconst (v := 0) hx hb dX8_freshen_83 (by decide) ?_
      refine lv_istore_n (lv' := [(1, .int 0), (0, .ref (ad 0))]) hx hb dX8_freshen_84 rfl hl (by decide) rfl (fun ls hl => ?_)
      exact w_X8_freshen_85 hm hR hK hD 100000 0 σ hf _ _ _ hP hS (lv_sub hl [1, 0] rfl)
    · rw [if_neg c_60] at hf
      refine lv_aload_n hx hb dX8_freshen_63 rfl (lv_at hl 0 rfl) ?_
      refine va_get (D := D) (ci := 7) (v := .ref (ad 15)) (C := RX8) (T := TX8) (N := 50) hx hb hts in_X8_freshen_X8 hown hK hP 0 (wM_0 _ _ _ _ _) rfl 19 (by decide) (hts (.fieldLink RX8 53 "CallGraphsModel" "madeAt" "[Z") (List.mem_of_getElem? (i := 5) rfl)) (fun _ h9 => h9) (fM_0_19 _ _) dX8_freshen_64 ?_
      refine lv_iload_n hx hb dX8_freshen_67 rfl (lv_at hl 1 rfl) ?_
      refine lv_iconst (v := 0) hx hb dX8_freshen_68 (by decide) ?_
      obtain ⟨h_69, hf⟩ := oi_e hf
      refine va_zast hx hb hK hP (hD _) hS 15 2 (wM_15 _ _ _ _ _) rfl h_69 dX8_freshen_69 (fun H locs hP _ hS => ?_)
      rw [nb_a (Or.inl rfl)] at hP
      have hP := wM_s15 hP
      obtain ⟨s_69, es_69, hf⟩ := os_e hf
      rw [← es_69] at hP
      refine lv_aload_n hx hb dX8_freshen_70 rfl (lv_at hl 0 rfl) ?_
      refine va_get (D := D) (ci := 7) (v := .ref (ad 16)) (C := RX8) (T := TX8) (N := 50) hx hb hts in_X8_freshen_X8 hown hK hP 0 (wM_0 _ _ _ _ _) rfl 20 (by decide) (hts (.fieldLink RX8 56 "CallGraphsModel" "begunAt" "[Z") (List.mem_of_getElem? (i := 6) rfl)) (fun _ h9 => h9) (fM_0_20 _ _) dX8_freshen_71 ?_
      refine lv_iload_n hx hb dX8_freshen_74 rfl (lv_at hl 1 rfl) ?_
      refine lv_iconst (v := 0) hx hb dX8_freshen_75 (by decide) ?_
      obtain ⟨h_76, hf⟩ := oi_e hf
      refine va_zast hx hb hK hP (hD _) hS 16 2 (wM_16 _ _ _ _ _) rfl h_76 dX8_freshen_76 (fun H locs hP _ hS => ?_)
      rw [nb_a (Or.inl rfl)] at hP
      have hP := wM_s16 hP
      obtain ⟨s_76, es_76, hf⟩ := os_e hf
      rw [← es_76] at hP
      refine lv_iinc (v := (v1 + 1)) (lv' := [(1, .int (v1 + 1)), (0, .ref (ad 0))]) hx hb dX8_freshen_77 hl (k := 1) rfl rfl (by decide) rfl (fun ls hl => ?_)
      refine lv_goto (tgt := 57) hx hb dX8_freshen_80 (by decide) ?_
      exact hk57 (v1 + 1) s_76 hf _ _ _ hP hS (lv_sub hl [1, 0] rfl)
def p_X8_freshen_15 : Nat → Int32 → SS → Option (SS)
  | 0, _, _ => none
  | n + 1, v1, σ => let k15 := p_X8_freshen_15 n; if 48 ≤ v1 then p_X8_freshen_57 100000 0 σ else if (σ.1 0 5) ≤ v1 then p_X8_freshen_47 k15 v1 v1 σ else oi v1 48 (if (σ.1 8 v1.toNatClampNeg) = 0 then p_X8_freshen_47 k15 v1 v1 σ else p_X8_freshen_48 k15 v1 1 v1 σ)
set_option maxHeartbeats 4000000 in
set_option maxRecDepth 100000 in
theorem w_X8_freshen_15 {p : Program} {l : Launch} {e : Env} {R : Room} {s : State} {m : MethodId} {args : Array Value} {below : List Frame} {meth : Method} {c : Code} {D : va_G} {ad : Nat → Nat} {cI cJ cZ : ClassId} {res : SS} (hm : mx p s m args meth c cX8_freshen 3 none wsX8_freshen RX8) (hR : 6 ≤ R.frames ∧ 153 ≤ R.locals) (hK : va_K D vwCl (tyw cI cJ cZ) s) (hD : ∀ σ, va_D (aM ad) (wM ad cI cJ cZ σ)) : ∀ (n : Nat) (v1 : Int32) (σ : SS), p_X8_freshen_15 n v1 σ = some res → ∀ (H : Heap) (locs : List Loc) (ls : Array Slot), va_P D vwCl (wM ad cI cJ cZ σ) H → va_S (aM ad) s.heap H locs → lv_has ls 3 [(0, .ref (ad 0)), (1, .int v1)] → W p l e R s m args below meth c H locs 0 0 (MQ below (va_Qv (fun (u : SS) => u = res) (fun u t => va_P D vwCl (wM ad cI cJ cZ u) t.heap) (aM ad)) args s 0 0 (aM ad)) (F0 m 15 ls []) := by
  obtain ⟨hx, hb, hr, hml, hown, hts, hlk⟩ := id hm
  intro n
  induction n with
  | zero =>
    intro _ _ hf
    cases hf
  | succ n hk15 =>
    intro v1 σ hf H locs ls hP hS hl
    rw [p_X8_freshen_15] at hf
    try dsimp only at hf
    refine lv_iload_n hx hb dX8_freshen_15 rfl (lv_at hl 1 rfl) ?_
    refine lv_bipush (v := 48) hx hb dX8_freshen_16 (by decide) ?_
    refine lv_icmp_ge (tgt := 55) hx hb dX8_freshen_18 (by decide) (fun c_18 => ?_) (fun c_18 => ?_)
    · rw [if_pos c_18] at hf
      refine lv_iconst (v := 0) hx hb dX8_freshen_55 (by decide) ?_
      refine lv_istore_n (lv' := [(1, .int 0), (0, .ref (ad 0))]) hx hb dX8_freshen_56 rfl hl (by decide) rfl (fun ls hl => ?_)
      exact w_X8_freshen_57 hm hR hK hD 100000 0 σ hf _ _ _ hP hS (lv_sub hl [1, 0] rfl)
    · rw [if_neg c_18] at hf
      refine lv_aload_n hx hb dX8_freshen_21 rfl (lv_at hl 0 rfl) ?_
      refine va_get (D := D) (ci := 7) (v := .ref (ad 14)) (C := RX8) (T := TX8) (N := 50) hx hb hts in_X8_freshen_X8 hown hK hP 0 (wM_0 _ _ _ _ _) rfl 18 (by decide) (hts (.fieldLink RX8 50 "CallGraphsModel" "reached" "[Z") (List.mem_of_getElem? (i := 2) rfl)) (fun _ h9 => h9) (fM_0_18 _ _) dX8_freshen_22 ?_
      refine lv_iload_n hx hb dX8_freshen_25 rfl (lv_at hl 1 rfl) ?_
      refine lv_iload_n hx hb dX8_freshen_26 rfl (lv_at hl 1 rfl) ?_
      refine lv_aload_n hx hb dX8_freshen_27 rfl (lv_at hl 0 rfl) ?_
      refine va_get (D := D) (ci := 7) (v := .int (σ.1 0 5)) (C := RX8) (T := TX8) (N := 50) hx hb hts in_X8_freshen_X8 hown hK hP 0 (wM_0 _ _ _ _ _) rfl 5 (by decide) (hts (.fieldLink RX8 131 "CallGraphsModel" "members" "I") (List.mem_of_getElem? (i := 3) rfl)) (fun _ h9 => h9) (fM_0_5 _ _) dX8_freshen_28 ?_
      refine lv_icmp_ge (tgt := 47) hx hb dX8_freshen_31 (by decide) (fun c_31 => ?_) (fun c_31 => ?_)
      · rw [if_pos c_31] at hf
        exact w_X8_freshen_47 hm hR hK hD (p_X8_freshen_15 n) hk15 v1 v1 σ hf _ _ _ hP hS (lv_sub hl [0, 1] rfl)
      · rw [if_neg c_31] at hf
        refine lv_aload_n hx hb dX8_freshen_34 rfl (lv_at hl 0 rfl) ?_
        refine va_get (D := D) (ci := 7) (v := .ref (ad 8)) (C := RX8) (T := TX8) (N := 50) hx hb hts in_X8_freshen_X8 hown hK hP 0 (wM_0 _ _ _ _ _) rfl 9 (by decide) (hts (.fieldLink RX8 31 "CallGraphsModel" "isRoot" "[Z") (List.mem_of_getElem? (i := 4) rfl)) (fun _ h9 => h9) (fM_0_9 _ _) dX8_freshen_35 ?_
        refine lv_iload_n hx hb dX8_freshen_38 rfl (lv_at hl 1 rfl) ?_
        obtain ⟨h_39, hf⟩ := oi_e hf
        refine va_zald hx hb hK hP 8 2 (wM_8 _ _ _ _ _) rfl h_39 dX8_freshen_39 ?_
        refine lv_if_eq (tgt := 47) hx hb dX8_freshen_40 (by decide) (fun c_40 => ?_) (fun c_40 => ?_)
        · rw [if_pos c_40] at hf
          exact w_X8_freshen_47 hm hR hK hD (p_X8_freshen_15 n) hk15 v1 v1 σ hf _ _ _ hP hS (lv_sub hl [0, 1] rfl)
        · rw [if_neg c_40] at hf
          refine lv_iconst (v := 1) hx hb dX8_freshen_43 (by decide) ?_
          refine lv_goto (tgt := 48) hx hb dX8_freshen_44 (by decide) ?_
          exact w_X8_freshen_48 hm hR hK hD (p_X8_freshen_15 n) hk15 v1 1 v1 σ hf _ _ _ hP hS (lv_sub hl [0, 1] rfl)
def p_X8_freshen_0 (σ : SS) : Option (SS) := if (σ.1 0 16) = 0 then os (sI σ 0 16 1) (fun s_10 => p_X8_freshen_15 100000 0 s_10) else some σ
set_option maxHeartbeats 4000000 in
set_option maxRecDepth 100000 in
theorem w_X8_freshen_0 {p : Program} {l : Launch} {e : Env} {R : Room} {s : State} {m : MethodId} {args : Array Value} {below : List Frame} {meth : Method} {c : Code} {D : va_G} {ad : Nat → Nat} {cI cJ cZ : ClassId} {res : SS} (hm : mx p s m args meth c cX8_freshen 3 none wsX8_freshen RX8) (hR : 6 ≤ R.frames ∧ 153 ≤ R.locals) (hK : va_K D vwCl (tyw cI cJ cZ) s) (hD : ∀ σ, va_D (aM ad) (wM ad cI cJ cZ σ)) (σ : SS) (hf : p_X8_freshen_0 σ = some res) (H : Heap) (locs : List Loc) (ls : Array Slot) (hP : va_P D vwCl (wM ad cI cJ cZ σ) H) (hS : va_S (aM ad) s.heap H locs) (hl : lv_has ls 3 [(0, .ref (ad 0))]) : W p l e R s m args below meth c H locs 0 0 (MQ below (va_Qv (fun (u : SS) => u = res) (fun u t => va_P D vwCl (wM ad cI cJ cZ u) t.heap) (aM ad)) args s 0 0 (aM ad)) (F0 m 0 ls []) := by
  obtain ⟨hx, hb, hr, hml, hown, hts, hlk⟩ := id hm
  unfold p_X8_freshen_0 at hf
  refine lv_aload_n hx hb dX8_freshen_0 rfl (lv_at hl 0 rfl) ?_
  refine va_get (D := D) (ci := 7) (v := .int (σ.1 0 16)) (C := RX8) (T := TX8) (N := 50) hx hb hts in_X8_freshen_X8 hown hK hP 0 (wM_0 _ _ _ _ _) rfl 16 (by decide) (hts (.fieldLink RX8 119 "CallGraphsModel" "isFresh" "Z") (List.mem_of_getElem? (i := 1) rfl)) (fun _ h9 => h9) (fM_0_16 _ _) dX8_freshen_1 ?_
  refine lv_if_eq (tgt := 8) hx hb dX8_freshen_4 (by decide) (fun c_4 => ?_) (fun c_4 => ?_)
  · rw [if_pos c_4] at hf
    refine lv_aload_n hx hb dX8_freshen_8 rfl (lv_at hl 0 rfl) ?_
    refine lv_iconst (v := 1) hx hb dX8_freshen_9 (by decide) ?_
    refine va_put (D := D) (ci := 7) (v := .int 1) (ty := .boolean) (C := RX8) (T := TX8) (N := 50) hx hb hts in_X8_freshen_X8 tyX8 tyX8_ok nmX8 hown hK hP (hD _) hS 0 (wM_0 _ _ _ _ _) rfl 16 (by decide) (hts (.fieldLink RX8 119 "CallGraphsModel" "isFresh" "Z") (List.mem_of_getElem? (i := 1) rfl)) (fun _ h9 => h9) rfl (tyX8_ok 16 (by decide)) (nb_n (Or.inr rfl)) (nb_f (Or.inr rfl)) (Nat.le_of_ble_eq_true rfl) dX8_freshen_10 (fun H locs hP _ hS => ?_)
    have hP := wM_p0_16 hP
    obtain ⟨s_10, es_10, hf⟩ := os_e hf
    rw [← es_10] at hP
    refine lv_iconst (v := 0) hx hb dX8_freshen_13 (by decide) ?_
    refine lv_istore_n (lv' := [(1, .int 0), (0, .ref (ad 0))]) hx hb dX8_freshen_14 rfl hl (by decide) rfl (fun ls hl => ?_)
    exact w_X8_freshen_15 hm hR hK hD 100000 0 s_10 hf _ _ _ hP hS (lv_sub hl [1, 0] rfl)
  · rw [if_neg c_4] at hf
    exact rt_v (wd := wM ad cI cJ cZ) hx hb hr hlk (Option.some.inj hf) hP hS dX8_freshen_7
theorem hd_X8_freshen : yX8_freshen.cls = RX8 ∧ yX8_freshen.cls ≠ "java/lang/invoke/MethodHandle" ∧ yX8_freshen.cls ≠ "java/lang/invoke/VarHandle" ∧ (parseMethodDescriptor yX8_freshen.desc).map (fun d => d.parameters.length) = some 0 := by decide +kernel
set_option maxHeartbeats 4000000 in
set_option maxRecDepth 100000 in
theorem c_X8_freshen (l : Launch) (D : va_G) (ad : Nat → Nat) (cI cJ cZ : ClassId) (σ : SS) {res : SS} (hf : p_X8_freshen_0 σ = some res) : Met l yX8_freshen wsX8_freshen ({ frames := 6, cells := 0, slots := 0, locals := 153 } : Room) (PW D (tyw cI cJ cZ) (wM ad cI cJ cZ σ) [.ref (ad 0)]) (va_Qv (fun (u : SS) => u = res) (fun u t => va_P D vwCl (wM ad cI cJ cZ u) t.heap) (aM ad)) 0 0 (aM ad) := by
  refine Met.ofW (cc := cX8_freshen) (maxL := 3) (ret := none) (by decide) rfl ?_
  intro p e s m args below meth c s₁ B hml hv
  obtain ⟨rfl, hP, hK, hD0⟩ := hv
  have hD : ∀ σ, va_D (aM ad) (wM ad cI cJ cZ σ) := fun σ => wd_D hD0 (wM_map _ _ _ _ _) (wM_map _ _ _ _ _)
  have hm : mx p s m _ meth c cX8_freshen 3 none wsX8_freshen RX8 := ⟨B.exec, B.bytes, B.returns, hml, findClass_of_methodNamed B.named, atoms_spec (ws := wsX8_freshen) B.pre, B.notSynchronized⟩
  have hl := lv_entry ([.ref (ad 0)]) (n := 3) (Nat.le_of_ble_eq_true rfl)
  rw [lg_entry_eq]
  generalize (lg_sl ([.ref (ad 0)]) ++ List.replicate (3 - (lg_sl ([.ref (ad 0)])).length) Slot.unset).toArray = ls at hl ⊢
  exact w_X8_freshen_0 hm ⟨Nat.le_refl _, Nat.le_refl _⟩ hK hD σ hf _ _ _ hP va_S.rf hl
/-! CallGraphsModel.isCallee(II)Z -/
theorem in_X8_isCallee_X8 : ∀ w ∈ u_ws RX8 TX8 50, w ∈ wsX8_isCallee := fun w h => List.mem_cons_of_mem _ (List.mem_append_right _ h)
def p_X8_isCallee_0 (σ : SS) (v1 : Int32) (v2 : Int32) : Option (Int32) := oi ((48 * v1) + v2) 2304 (ob (σ.1 26 ((48 * v1) + v2).toNatClampNeg) (some (σ.1 26 ((48 * v1) + v2).toNatClampNeg)))
set_option maxHeartbeats 4000000 in
set_option maxRecDepth 100000 in
theorem w_X8_isCallee_0 {p : Program} {l : Launch} {e : Env} {R : Room} {s : State} {m : MethodId} {args : Array Value} {below : List Frame} {meth : Method} {c : Code} {D : va_G} {ad : Nat → Nat} {cI cJ cZ : ClassId} {res : Int32} (hm : mx p s m args meth c cX8_isCallee 3 (some .boolean) wsX8_isCallee RX8) (hR : 0 ≤ R.frames ∧ 0 ≤ R.locals) (hK : va_K D vwCl (tyw cI cJ cZ) s) (hD : ∀ σ, va_D (aM ad) (wM ad cI cJ cZ σ)) (σ : SS) (v1 : Int32) (v2 : Int32) (hf : p_X8_isCallee_0 σ v1 v2 = some res) (H : Heap) (locs : List Loc) (ls : Array Slot) (hP : va_P D vwCl (wM ad cI cJ cZ σ) H) (hS : va_S (aM ad) s.heap H locs) (hl : lv_has ls 3 [(0, .ref (ad 0)), (1, .int v1), (2, .int v2)]) : W p l e R s m args below meth c H locs 0 0 (MQ below (va_Qi (fun (r : Int32) (u : SS) => r = res ∧ u = σ) (fun u t => va_P D vwCl (wM ad cI cJ cZ u) t.heap) (aM ad)) args s 0 0 (aM ad)) (F0 m 0 ls []) := by
  obtain ⟨hx, hb, hr, hml, hown, hts, hlk⟩ := id hm
  unfold p_X8_isCallee_0 at hf
  refine lv_aload_n hx hb dX8_isCallee_0 rfl (lv_at hl 0 rfl) ?_
  refine va_get (D := D) (ci := 7) (v := .ref (ad 26)) (C := RX8) (T := TX8) (N := 50) hx hb hts in_X8_isCallee_X8 hown hK hP 0 (wM_0 _ _ _ _ _) rfl 31 (by decide) (hts (.fieldLink RX8 86 "CallGraphsModel" "directly" "[Z") (List.mem_of_getElem? (i := 1) rfl)) (fun _ h9 => h9) (fM_0_31 _ _) dX8_isCallee_1 ?_
  refine lv_bipush (v := 48) hx hb dX8_isCallee_4 (by decide) ?_
  refine lv_iload_n hx hb dX8_isCallee_6 rfl (lv_at hl 1 rfl) ?_
  refine lv_imul hx hb dX8_isCallee_7 ?_
  refine lv_iload_n hx hb dX8_isCallee_8 rfl (lv_at hl 2 rfl) ?_
  refine lv_iadd hx hb dX8_isCallee_9 ?_
  obtain ⟨h_10, hf⟩ := oi_e hf
  refine va_zald hx hb hK hP 26 2 (wM_26 _ _ _ _ _) rfl h_10 dX8_isCallee_10 ?_
  obtain ⟨h_11, hf⟩ := ob_e hf
  exact rt_z (wd := wM ad cI cJ cZ) hx hb hr hlk h_11 ⟨Option.some.inj hf, rfl⟩ hP hS dX8_isCallee_11
theorem hd_X8_isCallee : yX8_isCallee.cls = RX8 ∧ yX8_isCallee.cls ≠ "java/lang/invoke/MethodHandle" ∧ yX8_isCallee.cls ≠ "java/lang/invoke/VarHandle" ∧ (parseMethodDescriptor yX8_isCallee.desc).map (fun d => d.parameters.length) = some 2 := by decide +kernel
set_option maxHeartbeats 4000000 in
set_option maxRecDepth 100000 in
theorem c_X8_isCallee (l : Launch) (D : va_G) (ad : Nat → Nat) (cI cJ cZ : ClassId) (σ : SS) (v1 : Int32) (v2 : Int32) {res : Int32} (hf : p_X8_isCallee_0 σ v1 v2 = some res) : Met l yX8_isCallee wsX8_isCallee ({ frames := 0, cells := 0, slots := 0, locals := 0 } : Room) (PW D (tyw cI cJ cZ) (wM ad cI cJ cZ σ) [.ref (ad 0), .int v1, .int v2]) (va_Qi (fun (r : Int32) (u : SS) => r = res ∧ u = σ) (fun u t => va_P D vwCl (wM ad cI cJ cZ u) t.heap) (aM ad)) 0 0 (aM ad) := by
  refine Met.ofW (cc := cX8_isCallee) (maxL := 3) (ret := (some .boolean)) (by decide) rfl ?_
  intro p e s m args below meth c s₁ B hml hv
  obtain ⟨rfl, hP, hK, hD0⟩ := hv
  have hD : ∀ σ, va_D (aM ad) (wM ad cI cJ cZ σ) := fun σ => wd_D hD0 (wM_map _ _ _ _ _) (wM_map _ _ _ _ _)
  have hm : mx p s m _ meth c cX8_isCallee 3 (some .boolean) wsX8_isCallee RX8 := ⟨B.exec, B.bytes, B.returns, hml, findClass_of_methodNamed B.named, atoms_spec (ws := wsX8_isCallee) B.pre, B.notSynchronized⟩
  have hl := lv_entry ([.ref (ad 0), .int v1, .int v2]) (n := 3) (Nat.le_of_ble_eq_true rfl)
  rw [lg_entry_eq]
  generalize (lg_sl ([.ref (ad 0), .int v1, .int v2]) ++ List.replicate (3 - (lg_sl ([.ref (ad 0), .int v1, .int v2])).length) Slot.unset).toArray = ls at hl ⊢
  exact w_X8_isCallee_0 hm ⟨Nat.le_refl _, Nat.le_refl _⟩ hK hD σ v1 v2 hf _ _ _ hP va_S.rf hl
/-! CallGraphsModel.isRecursive(I)Z -/
theorem in_X8_isRecursive_X8 : ∀ w ∈ u_ws RX8 TX8 50, w ∈ wsX8_isRecursive := fun w h => List.mem_cons_of_mem _ (List.mem_append_right _ h)
def p_X8_isRecursive_28 (σ : SS) (t0 : Int32) : Option (Int32) := ob t0 (some t0)
set_option maxHeartbeats 4000000 in
set_option maxRecDepth 100000 in
theorem w_X8_isRecursive_28 {p : Program} {l : Launch} {e : Env} {R : Room} {s : State} {m : MethodId} {args : Array Value} {below : List Frame} {meth : Method} {c : Code} {D : va_G} {ad : Nat → Nat} {cI cJ cZ : ClassId} {res : Int32} (hm : mx p s m args meth c cX8_isRecursive 2 (some .boolean) wsX8_isRecursive RX8) (hR : 0 ≤ R.frames ∧ 0 ≤ R.locals) (hK : va_K D vwCl (tyw cI cJ cZ) s) (hD : ∀ σ, va_D (aM ad) (wM ad cI cJ cZ σ)) (σ : SS) (t0 : Int32) (hf : p_X8_isRecursive_28 σ t0 = some res) (H : Heap) (locs : List Loc) (ls : Array Slot) (hP : va_P D vwCl (wM ad cI cJ cZ σ) H) (hS : va_S (aM ad) s.heap H locs) (hl : lv_has ls 2 []) : W p l e R s m args below meth c H locs 0 0 (MQ below (va_Qi (fun (r : Int32) (u : SS) => r = res ∧ u = σ) (fun u t => va_P D vwCl (wM ad cI cJ cZ u) t.heap) (aM ad)) args s 0 0 (aM ad)) (F0 m 28 ls [.int t0]) := by
  obtain ⟨hx, hb, hr, hml, hown, hts, hlk⟩ := id hm
  unfold p_X8_isRecursive_28 at hf
  obtain ⟨h_28, hf⟩ := ob_e hf
  exact rt_z (wd := wM ad cI cJ cZ) hx hb hr hlk h_28 ⟨Option.some.inj hf, rfl⟩ hP hS dX8_isRecursive_28
def p_X8_isRecursive_27 (σ : SS) : Option (Int32) := p_X8_isRecursive_28 σ 0
set_option maxHeartbeats 4000000 in
set_option maxRecDepth 100000 in
theorem w_X8_isRecursive_27 {p : Program} {l : Launch} {e : Env} {R : Room} {s : State} {m : MethodId} {args : Array Value} {below : List Frame} {meth : Method} {c : Code} {D : va_G} {ad : Nat → Nat} {cI cJ cZ : ClassId} {res : Int32} (hm : mx p s m args meth c cX8_isRecursive 2 (some .boolean) wsX8_isRecursive RX8) (hR : 0 ≤ R.frames ∧ 0 ≤ R.locals) (hK : va_K D vwCl (tyw cI cJ cZ) s) (hD : ∀ σ, va_D (aM ad) (wM ad cI cJ cZ σ)) (σ : SS) (hf : p_X8_isRecursive_27 σ = some res) (H : Heap) (locs : List Loc) (ls : Array Slot) (hP : va_P D vwCl (wM ad cI cJ cZ σ) H) (hS : va_S (aM ad) s.heap H locs) (hl : lv_has ls 2 []) : W p l e R s m args below meth c H locs 0 0 (MQ below (va_Qi (fun (r : Int32) (u : SS) => r = res ∧ u = σ) (fun u t => va_P D vwCl (wM ad cI cJ cZ u) t.heap) (aM ad)) args s 0 0 (aM ad)) (F0 m 27 ls []) := by
  obtain ⟨hx, hb, hr, hml, hown, hts, hlk⟩ := id hm
  unfold p_X8_isRecursive_27 at hf
  refine lv_iconst (v := 0) hx hb dX8_isRecursive_27 (by decide) ?_
  exact w_X8_isRecursive_28 hm hR hK hD σ 0 hf _ _ _ hP hS (lv_sub hl [] rfl)
def p_X8_isRecursive_0 (σ : SS) (v1 : Int32) : Option (Int32) := oi v1 48 (if (σ.1 14 v1.toNatClampNeg) = 0 then p_X8_isRecursive_27 σ else oi ((48 * v1) + v1) 2304 (if (σ.1 25 ((48 * v1) + v1).toNatClampNeg) = 0 then p_X8_isRecursive_27 σ else p_X8_isRecursive_28 σ 1))
set_option maxHeartbeats 4000000 in
set_option maxRecDepth 100000 in
theorem w_X8_isRecursive_0 {p : Program} {l : Launch} {e : Env} {R : Room} {s : State} {m : MethodId} {args : Array Value} {below : List Frame} {meth : Method} {c : Code} {D : va_G} {ad : Nat → Nat} {cI cJ cZ : ClassId} {res : Int32} (hm : mx p s m args meth c cX8_isRecursive 2 (some .boolean) wsX8_isRecursive RX8) (hR : 0 ≤ R.frames ∧ 0 ≤ R.locals) (hK : va_K D vwCl (tyw cI cJ cZ) s) (hD : ∀ σ, va_D (aM ad) (wM ad cI cJ cZ σ)) (σ : SS) (v1 : Int32) (hf : p_X8_isRecursive_0 σ v1 = some res) (H : Heap) (locs : List Loc) (ls : Array Slot) (hP : va_P D vwCl (wM ad cI cJ cZ σ) H) (hS : va_S (aM ad) s.heap H locs) (hl : lv_has ls 2 [(0, .ref (ad 0)), (1, .int v1)]) : W p l e R s m args below meth c H locs 0 0 (MQ below (va_Qi (fun (r : Int32) (u : SS) => r = res ∧ u = σ) (fun u t => va_P D vwCl (wM ad cI cJ cZ u) t.heap) (aM ad)) args s 0 0 (aM ad)) (F0 m 0 ls []) := by
  obtain ⟨hx, hb, hr, hml, hown, hts, hlk⟩ := id hm
  unfold p_X8_isRecursive_0 at hf
  refine lv_aload_n hx hb dX8_isRecursive_0 rfl (lv_at hl 0 rfl) ?_
  refine va_get (D := D) (ci := 7) (v := .ref (ad 14)) (C := RX8) (T := TX8) (N := 50) hx hb hts in_X8_isRecursive_X8 hown hK hP 0 (wM_0 _ _ _ _ _) rfl 18 (by decide) (hts (.fieldLink RX8 50 "CallGraphsModel" "reached" "[Z") (List.mem_of_getElem? (i := 1) rfl)) (fun _ h9 => h9) (fM_0_18 _ _) dX8_isRecursive_1 ?_
  refine lv_iload_n hx hb dX8_isRecursive_4 rfl (lv_at hl 1 rfl) ?_
  obtain ⟨h_5, hf⟩ := oi_e hf
  refine va_zald hx hb hK hP 14 2 (wM_14 _ _ _ _ _) rfl h_5 dX8_isRecursive_5 ?_
  refine lv_if_eq (tgt := 27) hx hb dX8_isRecursive_6 (by decide) (fun c_6 => ?_) (fun c_6 => ?_)
  · rw [if_pos c_6] at hf
    exact w_X8_isRecursive_27 hm hR hK hD σ hf _ _ _ hP hS (lv_sub hl [] rfl)
  · rw [if_neg c_6] at hf
    refine lv_aload_n hx hb dX8_isRecursive_9 rfl (lv_at hl 0 rfl) ?_
    refine va_get (D := D) (ci := 7) (v := .ref (ad 25)) (C := RX8) (T := TX8) (N := 50) hx hb hts in_X8_isRecursive_X8 hown hK hP 0 (wM_0 _ _ _ _ _) rfl 30 (by decide) (hts (.fieldLink RX8 83 "CallGraphsModel" "comes" "[Z") (List.mem_of_getElem? (i := 2) rfl)) (fun _ h9 => h9) (fM_0_30 _ _) dX8_isRecursive_10 ?_
    refine lv_bipush (v := 48) hx hb dX8_isRecursive_13 (by decide) ?_
    refine lv_iload_n hx hb dX8_isRecursive_15 rfl (lv_at hl 1 rfl) ?_
    refine lv_imul hx hb dX8_isRecursive_16 ?_
    refine lv_iload_n hx hb dX8_isRecursive_17 rfl (lv_at hl 1 rfl) ?_
    refine lv_iadd hx hb dX8_isRecursive_18 ?_
    obtain ⟨h_19, hf⟩ := oi_e hf
    refine va_zald hx hb hK hP 25 2 (wM_25 _ _ _ _ _) rfl h_19 dX8_isRecursive_19 ?_
    refine lv_if_eq (tgt := 27) hx hb dX8_isRecursive_20 (by decide) (fun c_20 => ?_) (fun c_20 => ?_)
    · rw [if_pos c_20] at hf
      exact w_X8_isRecursive_27 hm hR hK hD σ hf _ _ _ hP hS (lv_sub hl [] rfl)
    · rw [if_neg c_20] at hf
      refine lv_iconst (v := 1) hx hb dX8_isRecursive_23 (by decide) ?_
      refine lv_goto (tgt := 28) hx hb dX8_isRecursive_24 (by decide) ?_
      exact w_X8_isRecursive_28 hm hR hK hD σ 1 hf _ _ _ hP hS (lv_sub hl [] rfl)
theorem hd_X8_isRecursive : yX8_isRecursive.cls = RX8 ∧ yX8_isRecursive.cls ≠ "java/lang/invoke/MethodHandle" ∧ yX8_isRecursive.cls ≠ "java/lang/invoke/VarHandle" ∧ (parseMethodDescriptor yX8_isRecursive.desc).map (fun d => d.parameters.length) = some 1 := by decide +kernel
set_option maxHeartbeats 4000000 in
set_option maxRecDepth 100000 in
theorem c_X8_isRecursive (l : Launch) (D : va_G) (ad : Nat → Nat) (cI cJ cZ : ClassId) (σ : SS) (v1 : Int32) {res : Int32} (hf : p_X8_isRecursive_0 σ v1 = some res) : Met l yX8_isRecursive wsX8_isRecursive ({ frames := 0, cells := 0, slots := 0, locals := 0 } : Room) (PW D (tyw cI cJ cZ) (wM ad cI cJ cZ σ) [.ref (ad 0), .int v1]) (va_Qi (fun (r : Int32) (u : SS) => r = res ∧ u = σ) (fun u t => va_P D vwCl (wM ad cI cJ cZ u) t.heap) (aM ad)) 0 0 (aM ad) := by
  refine Met.ofW (cc := cX8_isRecursive) (maxL := 2) (ret := (some .boolean)) (by decide) rfl ?_
  intro p e s m args below meth c s₁ B hml hv
  obtain ⟨rfl, hP, hK, hD0⟩ := hv
  have hD : ∀ σ, va_D (aM ad) (wM ad cI cJ cZ σ) := fun σ => wd_D hD0 (wM_map _ _ _ _ _) (wM_map _ _ _ _ _)
  have hm : mx p s m _ meth c cX8_isRecursive 2 (some .boolean) wsX8_isRecursive RX8 := ⟨B.exec, B.bytes, B.returns, hml, findClass_of_methodNamed B.named, atoms_spec (ws := wsX8_isRecursive) B.pre, B.notSynchronized⟩
  have hl := lv_entry ([.ref (ad 0), .int v1]) (n := 2) (Nat.le_of_ble_eq_true rfl)
  rw [lg_entry_eq]
  generalize (lg_sl ([.ref (ad 0), .int v1]) ++ List.replicate (2 - (lg_sl ([.ref (ad 0), .int v1])).length) Slot.unset).toArray = ls at hl ⊢
  exact w_X8_isRecursive_0 hm ⟨Nat.le_refl _, Nat.le_refl _⟩ hK hD σ v1 hf _ _ _ hP va_S.rf hl
/-! CallGraphsModel.isRing(II)Z -/
theorem in_X8_isRing_X8 : ∀ w ∈ u_ws RX8 TX8 50, w ∈ wsX8_isRing := fun w h => List.mem_cons_of_mem _ (List.mem_append_right _ h)
def p_X8_isRing_41 (σ : SS) (t0 : Int32) : Option (Int32) := ob t0 (some t0)
set_option maxHeartbeats 4000000 in
set_option maxRecDepth 100000 in
theorem w_X8_isRing_41 {p : Program} {l : Launch} {e : Env} {R : Room} {s : State} {m : MethodId} {args : Array Value} {below : List Frame} {meth : Method} {c : Code} {D : va_G} {ad : Nat → Nat} {cI cJ cZ : ClassId} {res : Int32} (hm : mx p s m args meth c cX8_isRing 3 (some .boolean) wsX8_isRing RX8) (hR : 1 ≤ R.frames ∧ 21 ≤ R.locals) (hK : va_K D vwCl (tyw cI cJ cZ) s) (hD : ∀ σ, va_D (aM ad) (wM ad cI cJ cZ σ)) (σ : SS) (t0 : Int32) (hf : p_X8_isRing_41 σ t0 = some res) (H : Heap) (locs : List Loc) (ls : Array Slot) (hP : va_P D vwCl (wM ad cI cJ cZ σ) H) (hS : va_S (aM ad) s.heap H locs) (hl : lv_has ls 3 []) : W p l e R s m args below meth c H locs 0 0 (MQ below (va_Qi (fun (r : Int32) (u : SS) => r = res ∧ u = σ) (fun u t => va_P D vwCl (wM ad cI cJ cZ u) t.heap) (aM ad)) args s 0 0 (aM ad)) (F0 m 41 ls [.int t0]) := by
  obtain ⟨hx, hb, hr, hml, hown, hts, hlk⟩ := id hm
  unfold p_X8_isRing_41 at hf
  obtain ⟨h_41, hf⟩ := ob_e hf
  exact rt_z (wd := wM ad cI cJ cZ) hx hb hr hlk h_41 ⟨Option.some.inj hf, rfl⟩ hP hS dX8_isRing_41
def p_X8_isRing_40 (σ : SS) : Option (Int32) := p_X8_isRing_41 σ 0
set_option maxHeartbeats 4000000 in
set_option maxRecDepth 100000 in
theorem w_X8_isRing_40 {p : Program} {l : Launch} {e : Env} {R : Room} {s : State} {m : MethodId} {args : Array Value} {below : List Frame} {meth : Method} {c : Code} {D : va_G} {ad : Nat → Nat} {cI cJ cZ : ClassId} {res : Int32} (hm : mx p s m args meth c cX8_isRing 3 (some .boolean) wsX8_isRing RX8) (hR : 1 ≤ R.frames ∧ 21 ≤ R.locals) (hK : va_K D vwCl (tyw cI cJ cZ) s) (hD : ∀ σ, va_D (aM ad) (wM ad cI cJ cZ σ)) (σ : SS) (hf : p_X8_isRing_40 σ = some res) (H : Heap) (locs : List Loc) (ls : Array Slot) (hP : va_P D vwCl (wM ad cI cJ cZ σ) H) (hS : va_S (aM ad) s.heap H locs) (hl : lv_has ls 3 []) : W p l e R s m args below meth c H locs 0 0 (MQ below (va_Qi (fun (r : Int32) (u : SS) => r = res ∧ u = σ) (fun u t => va_P D vwCl (wM ad cI cJ cZ u) t.heap) (aM ad)) args s 0 0 (aM ad)) (F0 m 40 ls []) := by
  obtain ⟨hx, hb, hr, hml, hown, hts, hlk⟩ := id hm
  unfold p_X8_isRing_40 at hf
  refine lv_iconst (v := 0) hx hb dX8_isRing_40 (by decide) ?_
  exact w_X8_isRing_41 hm hR hK hD σ 0 hf _ _ _ hP hS (lv_sub hl [] rfl)
def p_X8_isRing_0 (σ : SS) (v1 : Int32) (v2 : Int32) : Option (Int32) := oc (p_X8_isRecursive_0 σ v1) (fun r_2 => if r_2 = 0 then p_X8_isRing_40 σ else oi ((48 * v1) + v2) 2304 (if (σ.1 25 ((48 * v1) + v2).toNatClampNeg) = 0 then p_X8_isRing_40 σ else oi ((48 * v2) + v1) 2304 (if (σ.1 25 ((48 * v2) + v1).toNatClampNeg) = 0 then p_X8_isRing_40 σ else p_X8_isRing_41 σ 1)))
set_option maxHeartbeats 4000000 in
set_option maxRecDepth 100000 in
theorem w_X8_isRing_0 {p : Program} {l : Launch} {e : Env} {R : Room} {s : State} {m : MethodId} {args : Array Value} {below : List Frame} {meth : Method} {c : Code} {D : va_G} {ad : Nat → Nat} {cI cJ cZ : ClassId} {res : Int32} (hm : mx p s m args meth c cX8_isRing 3 (some .boolean) wsX8_isRing RX8) (hR : 1 ≤ R.frames ∧ 21 ≤ R.locals) (hK : va_K D vwCl (tyw cI cJ cZ) s) (hD : ∀ σ, va_D (aM ad) (wM ad cI cJ cZ σ)) (σ : SS) (v1 : Int32) (v2 : Int32) (hf : p_X8_isRing_0 σ v1 v2 = some res) (H : Heap) (locs : List Loc) (ls : Array Slot) (hP : va_P D vwCl (wM ad cI cJ cZ σ) H) (hS : va_S (aM ad) s.heap H locs) (hl : lv_has ls 3 [(0, .ref (ad 0)), (1, .int v1), (2, .int v2)]) : W p l e R s m args below meth c H locs 0 0 (MQ below (va_Qi (fun (r : Int32) (u : SS) => r = res ∧ u = σ) (fun u t => va_P D vwCl (wM ad cI cJ cZ u) t.heap) (aM ad)) args s 0 0 (aM ad)) (F0 m 0 ls []) := by
  obtain ⟨hx, hb, hr, hml, hown, hts, hlk⟩ := id hm
  unfold p_X8_isRing_0 at hf
  refine lv_aload_n hx hb dX8_isRing_0 rfl (lv_at hl 0 rfl) ?_
  refine lv_iload_n hx hb dX8_isRing_1 rfl (lv_at hl 1 rfl) ?_
  obtain ⟨r_2, hg_2, hf⟩ := oc_e hf
  refine mV_ri (wd := wM ad cI cJ cZ) (σ := σ) (As := [.int v1]) (rest := []) ⟨hx, hb, hml, hown, hts⟩ hK hP hD hS (c_X8_isRecursive l D ad cI cJ cZ σ v1 hg_2) (cwV 1 hts gX8_isRing_X8_isRecursive rfl rfl rfl hd_X8_isRecursive ⟨Nat.le_trans (Nat.le_of_ble_eq_true rfl) hR.1, Nat.le_trans (Nat.le_of_ble_eq_true rfl) hR.2⟩) rfl (wM_0 _ _ _ _ _) rfl hl.1 rfl (Nat.le_of_ble_eq_true rfl) dX8_isRing_2 (fun H locs hP hS => ?_)
  refine lv_if_eq (tgt := 40) hx hb dX8_isRing_5 (by decide) (fun c_5 => ?_) (fun c_5 => ?_)
  · rw [if_pos c_5] at hf
    exact w_X8_isRing_40 hm hR hK hD σ hf _ _ _ hP hS (lv_sub hl [] rfl)
  · rw [if_neg c_5] at hf
    refine lv_aload_n hx hb dX8_isRing_8 rfl (lv_at hl 0 rfl) ?_
    refine va_get (D := D) (ci := 7) (v := .ref (ad 25)) (C := RX8) (T := TX8) (N := 50) hx hb hts in_X8_isRing_X8 hown hK hP 0 (wM_0 _ _ _ _ _) rfl 30 (by decide) (hts (.fieldLink RX8 83 "CallGraphsModel" "comes" "[Z") (List.mem_of_getElem? (i := 1) rfl)) (fun _ h9 => h9) (fM_0_30 _ _) dX8_isRing_9 ?_
    refine lv_bipush (v := 48) hx hb dX8_isRing_12 (by decide) ?_
    refine lv_iload_n hx hb dX8_isRing_14 rfl (lv_at hl 1 rfl) ?_
    refine lv_imul hx hb dX8_isRing_15 ?_
    refine lv_iload_n hx hb dX8_isRing_16 rfl (lv_at hl 2 rfl) ?_
    refine lv_iadd hx hb dX8_isRing_17 ?_
    obtain ⟨h_18, hf⟩ := oi_e hf
    refine va_zald hx hb hK hP 25 2 (wM_25 _ _ _ _ _) rfl h_18 dX8_isRing_18 ?_
    refine lv_if_eq (tgt := 40) hx hb dX8_isRing_19 (by decide) (fun c_19 => ?_) (fun c_19 => ?_)
    · rw [if_pos c_19] at hf
      exact w_X8_isRing_40 hm hR hK hD σ hf _ _ _ hP hS (lv_sub hl [] rfl)
    · rw [if_neg c_19] at hf
      refine lv_aload_n hx hb dX8_isRing_22 rfl (lv_at hl 0 rfl) ?_
      refine va_get (D := D) (ci := 7) (v := .ref (ad 25)) (C := RX8) (T := TX8) (N := 50) hx hb hts in_X8_isRing_X8 hown hK hP 0 (wM_0 _ _ _ _ _) rfl 30 (by decide) (hts (.fieldLink RX8 83 "CallGraphsModel" "comes" "[Z") (List.mem_of_getElem? (i := 1) rfl)) (fun _ h9 => h9) (fM_0_30 _ _) dX8_isRing_23 ?_
      refine lv_bipush (v := 48) hx hb dX8_isRing_26 (by decide) ?_
      refine lv_iload_n hx hb dX8_isRing_28 rfl (lv_at hl 2 rfl) ?_
      refine lv_imul hx hb dX8_isRing_29 ?_
      refine lv_iload_n hx hb dX8_isRing_30 rfl (lv_at hl 1 rfl) ?_
      refine lv_iadd hx hb dX8_isRing_31 ?_
      obtain ⟨h_32, hf⟩ := oi_e hf
      refine va_zald hx hb hK hP 25 2 (wM_25 _ _ _ _ _) rfl h_32 dX8_isRing_32 ?_
      refine lv_if_eq (tgt := 40) hx hb dX8_isRing_33 (by decide) (fun c_33 => ?_) (fun c_33 => ?_)
      · rw [if_pos c_33] at hf
        exact w_X8_isRing_40 hm hR hK hD σ hf _ _ _ hP hS (lv_sub hl [] rfl)
      · rw [if_neg c_33] at hf
        refine lv_iconst (v := 1) hx hb dX8_isRing_36 (by decide) ?_
        refine lv_goto (tgt := 41) hx hb dX8_isRing_37 (by decide) ?_
        exact w_X8_isRing_41 hm hR hK hD σ 1 hf _ _ _ hP hS (lv_sub hl [] rfl)
theorem hd_X8_isRing : yX8_isRing.cls = RX8 ∧ yX8_isRing.cls ≠ "java/lang/invoke/MethodHandle" ∧ yX8_isRing.cls ≠ "java/lang/invoke/VarHandle" ∧ (parseMethodDescriptor yX8_isRing.desc).map (fun d => d.parameters.length) = some 2 := by decide +kernel
set_option maxHeartbeats 4000000 in
set_option maxRecDepth 100000 in
theorem c_X8_isRing (l : Launch) (D : va_G) (ad : Nat → Nat) (cI cJ cZ : ClassId) (σ : SS) (v1 : Int32) (v2 : Int32) {res : Int32} (hf : p_X8_isRing_0 σ v1 v2 = some res) : Met l yX8_isRing wsX8_isRing ({ frames := 1, cells := 0, slots := 0, locals := 21 } : Room) (PW D (tyw cI cJ cZ) (wM ad cI cJ cZ σ) [.ref (ad 0), .int v1, .int v2]) (va_Qi (fun (r : Int32) (u : SS) => r = res ∧ u = σ) (fun u t => va_P D vwCl (wM ad cI cJ cZ u) t.heap) (aM ad)) 0 0 (aM ad) := by
  refine Met.ofW (cc := cX8_isRing) (maxL := 3) (ret := (some .boolean)) (by decide) rfl ?_
  intro p e s m args below meth c s₁ B hml hv
  obtain ⟨rfl, hP, hK, hD0⟩ := hv
  have hD : ∀ σ, va_D (aM ad) (wM ad cI cJ cZ σ) := fun σ => wd_D hD0 (wM_map _ _ _ _ _) (wM_map _ _ _ _ _)
  have hm : mx p s m _ meth c cX8_isRing 3 (some .boolean) wsX8_isRing RX8 := ⟨B.exec, B.bytes, B.returns, hml, findClass_of_methodNamed B.named, atoms_spec (ws := wsX8_isRing) B.pre, B.notSynchronized⟩
  have hl := lv_entry ([.ref (ad 0), .int v1, .int v2]) (n := 3) (Nat.le_of_ble_eq_true rfl)
  rw [lg_entry_eq]
  generalize (lg_sl ([.ref (ad 0), .int v1, .int v2]) ++ List.replicate (3 - (lg_sl ([.ref (ad 0), .int v1, .int v2])).length) Slot.unset).toArray = ls at hl ⊢
  exact w_X8_isRing_0 hm ⟨Nat.le_refl _, Nat.le_refl _⟩ hK hD σ v1 v2 hf _ _ _ hP va_S.rf hl
/-! CallGraphsModel.countIn(I)I -/
theorem in_X8_countIn_X8 : ∀ w ∈ u_ws RX8 TX8 50, w ∈ wsX8_countIn := fun w h => List.mem_cons_of_mem _ (List.mem_append_right _ h)
def p_X8_countIn_60 (σ : SS) (k4 : Int32 → Int32 → Int32 → Option (Int32)) (v1 : Int32) (v3 : Int32) (t0 : Int32) (t1 : Int32) : Option (Int32) := k4 v1 (t1 + t0) (v3 + 1)
set_option maxHeartbeats 4000000 in
set_option maxRecDepth 100000 in
theorem w_X8_countIn_60 {p : Program} {l : Launch} {e : Env} {R : Room} {s : State} {m : MethodId} {args : Array Value} {below : List Frame} {meth : Method} {c : Code} {D : va_G} {ad : Nat → Nat} {cI cJ cZ : ClassId} {res : Int32} (hm : mx p s m args meth c cX8_countIn 4 (some .int) wsX8_countIn RX8) (hR : 1 ≤ R.frames ∧ 21 ≤ R.locals) (hK : va_K D vwCl (tyw cI cJ cZ) s) (hD : ∀ σ, va_D (aM ad) (wM ad cI cJ cZ σ)) (σ : SS) (k4 : Int32 → Int32 → Int32 → Option (Int32)) (hk4 : ∀ (v1 : Int32) (v2 : Int32) (v3 : Int32), k4 v1 v2 v3 = some res → ∀ (H : Heap) (locs : List Loc) (ls : Array Slot), va_P D vwCl (wM ad cI cJ cZ σ) H → va_S (aM ad) s.heap H locs → lv_has ls 4 [(0, .ref (ad 0)), (1, .int v1), (2, .int v2), (3, .int v3)] → W p l e R s m args below meth c H locs 0 0 (MQ below (va_Qi (fun (r : Int32) (u : SS) => r = res ∧ u = σ) (fun u t => va_P D vwCl (wM ad cI cJ cZ u) t.heap) (aM ad)) args s 0 0 (aM ad)) (F0 m 4 ls [])) (v1 : Int32) (v3 : Int32) (t0 : Int32) (t1 : Int32) (hf : p_X8_countIn_60 σ k4 v1 v3 t0 t1 = some res) (H : Heap) (locs : List Loc) (ls : Array Slot) (hP : va_P D vwCl (wM ad cI cJ cZ σ) H) (hS : va_S (aM ad) s.heap H locs) (hl : lv_has ls 4 [(0, .ref (ad 0)), (1, .int v1), (3, .int v3)]) : W p l e R s m args below meth c H locs 0 0 (MQ below (va_Qi (fun (r : Int32) (u : SS) => r = res ∧ u = σ) (fun u t => va_P D vwCl (wM ad cI cJ cZ u) t.heap) (aM ad)) args s 0 0 (aM ad)) (F0 m 60 ls [.int t0, .int t1]) := by
  obtain ⟨hx, hb, hr, hml, hown, hts, hlk⟩ := id hm
  unfold p_X8_countIn_60 at hf
  refine lv_iadd hx hb dX8_countIn_60 ?_
  refine lv_istore_n (lv' := [(2, .int (t1 + t0)), (0, .ref (ad 0)), (1, .int v1), (3, .int v3)]) hx hb dX8_countIn_61 rfl hl (by decide) rfl (fun ls hl => ?_)
  refine lv_iinc (v := (v3 + 1)) (lv' := [(3, .int (v3 + 1)), (2, .int (t1 + t0)), (0, .ref (ad 0)), (1, .int v1)]) hx hb dX8_countIn_62 hl (k := 3) rfl rfl (by decide) rfl (fun ls hl => ?_)
  refine lv_goto (tgt := 4) hx hb dX8_countIn_65 (by decide) ?_
  exact hk4 v1 (t1 + t0) (v3 + 1) hf _ _ _ hP hS (lv_sub hl [2, 3, 1, 0] rfl)
def p_X8_countIn_55 (σ : SS) (k4 : Int32 → Int32 → Int32 → Option (Int32)) (v1 : Int32) (v3 : Int32) (t0 : Int32) : Option (Int32) := p_X8_countIn_60 σ k4 v1 v3 1 t0
set_option maxHeartbeats 4000000 in
set_option maxRecDepth 100000 in
theorem w_X8_countIn_55 {p : Program} {l : Launch} {e : Env} {R : Room} {s : State} {m : MethodId} {args : Array Value} {below : List Frame} {meth : Method} {c : Code} {D : va_G} {ad : Nat → Nat} {cI cJ cZ : ClassId} {res : Int32} (hm : mx p s m args meth c cX8_countIn 4 (some .int) wsX8_countIn RX8) (hR : 1 ≤ R.frames ∧ 21 ≤ R.locals) (hK : va_K D vwCl (tyw cI cJ cZ) s) (hD : ∀ σ, va_D (aM ad) (wM ad cI cJ cZ σ)) (σ : SS) (k4 : Int32 → Int32 → Int32 → Option (Int32)) (hk4 : ∀ (v1 : Int32) (v2 : Int32) (v3 : Int32), k4 v1 v2 v3 = some res → ∀ (H : Heap) (locs : List Loc) (ls : Array Slot), va_P D vwCl (wM ad cI cJ cZ σ) H → va_S (aM ad) s.heap H locs → lv_has ls 4 [(0, .ref (ad 0)), (1, .int v1), (2, .int v2), (3, .int v3)] → W p l e R s m args below meth c H locs 0 0 (MQ below (va_Qi (fun (r : Int32) (u : SS) => r = res ∧ u = σ) (fun u t => va_P D vwCl (wM ad cI cJ cZ u) t.heap) (aM ad)) args s 0 0 (aM ad)) (F0 m 4 ls [])) (v1 : Int32) (v3 : Int32) (t0 : Int32) (hf : p_X8_countIn_55 σ k4 v1 v3 t0 = some res) (H : Heap) (locs : List Loc) (ls : Array Slot) (hP : va_P D vwCl (wM ad cI cJ cZ σ) H) (hS : va_S (aM ad) s.heap H locs) (hl : lv_has ls 4 [(0, .ref (ad 0)), (1, .int v1), (3, .int v3)]) : W p l e R s m args below meth c H locs 0 0 (MQ below (va_Qi (fun (r : Int32) (u : SS) => r = res ∧ u = σ) (fun u t => va_P D vwCl (wM ad cI cJ cZ u) t.heap) (aM ad)) args s 0 0 (aM ad)) (F0 m 55 ls [.int t0]) := by
  obtain ⟨hx, hb, hr, hml, hown, hts, hlk⟩ := id hm
  unfold p_X8_countIn_55 at hf
  refine lv_iconst (v := 1) hx hb dX8_countIn_55 (by decide) ?_
  refine lv_goto (tgt := 60) hx hb dX8_countIn_56 (by decide) ?_
  exact w_X8_countIn_60 hm hR hK hD σ k4 hk4 v1 v3 1 t0 hf _ _ _ hP hS (lv_sub hl [0, 1, 2] rfl)
def p_X8_countIn_59 (σ : SS) (k4 : Int32 → Int32 → Int32 → Option (Int32)) (v1 : Int32) (v3 : Int32) (t0 : Int32) : Option (Int32) := p_X8_countIn_60 σ k4 v1 v3 0 t0
set_option maxHeartbeats 4000000 in
set_option maxRecDepth 100000 in
theorem w_X8_countIn_59 {p : Program} {l : Launch} {e : Env} {R : Room} {s : State} {m : MethodId} {args : Array Value} {below : List Frame} {meth : Method} {c : Code} {D : va_G} {ad : Nat → Nat} {cI cJ cZ : ClassId} {res : Int32} (hm : mx p s m args meth c cX8_countIn 4 (some .int) wsX8_countIn RX8) (hR : 1 ≤ R.frames ∧ 21 ≤ R.locals) (hK : va_K D vwCl (tyw cI cJ cZ) s) (hD : ∀ σ, va_D (aM ad) (wM ad cI cJ cZ σ)) (σ : SS) (k4 : Int32 → Int32 → Int32 → Option (Int32)) (hk4 : ∀ (v1 : Int32) (v2 : Int32) (v3 : Int32), k4 v1 v2 v3 = some res → ∀ (H : Heap) (locs : List Loc) (ls : Array Slot), va_P D vwCl (wM ad cI cJ cZ σ) H → va_S (aM ad) s.heap H locs → lv_has ls 4 [(0, .ref (ad 0)), (1, .int v1), (2, .int v2), (3, .int v3)] → W p l e R s m args below meth c H locs 0 0 (MQ below (va_Qi (fun (r : Int32) (u : SS) => r = res ∧ u = σ) (fun u t => va_P D vwCl (wM ad cI cJ cZ u) t.heap) (aM ad)) args s 0 0 (aM ad)) (F0 m 4 ls [])) (v1 : Int32) (v3 : Int32) (t0 : Int32) (hf : p_X8_countIn_59 σ k4 v1 v3 t0 = some res) (H : Heap) (locs : List Loc) (ls : Array Slot) (hP : va_P D vwCl (wM ad cI cJ cZ σ) H) (hS : va_S (aM ad) s.heap H locs) (hl : lv_has ls 4 [(0, .ref (ad 0)), (1, .int v1), (3, .int v3)]) : W p l e R s m args below meth c H locs 0 0 (MQ below (va_Qi (fun (r : Int32) (u : SS) => r = res ∧ u = σ) (fun u t => va_P D vwCl (wM ad cI cJ cZ u) t.heap) (aM ad)) args s 0 0 (aM ad)) (F0 m 59 ls [.int t0]) := by
  obtain ⟨hx, hb, hr, hml, hown, hts, hlk⟩ := id hm
  unfold p_X8_countIn_59 at hf
  refine lv_iconst (v := 0) hx hb dX8_countIn_59 (by decide) ?_
  exact w_X8_countIn_60 hm hR hK hD σ k4 hk4 v1 v3 0 t0 hf _ _ _ hP hS (lv_sub hl [0, 1, 2] rfl)
def p_X8_countIn_41 (σ : SS) (k4 : Int32 → Int32 → Int32 → Option (Int32)) (v1 : Int32) (v3 : Int32) (t0 : Int32) : Option (Int32) := if v1 = 9 then oc (p_X8_isRecursive_0 σ v3) (fun r_49 => if r_49 = 0 then p_X8_countIn_59 σ k4 v1 v3 t0 else p_X8_countIn_55 σ k4 v1 v3 t0) else p_X8_countIn_59 σ k4 v1 v3 t0
set_option maxHeartbeats 4000000 in
set_option maxRecDepth 100000 in
theorem w_X8_countIn_41 {p : Program} {l : Launch} {e : Env} {R : Room} {s : State} {m : MethodId} {args : Array Value} {below : List Frame} {meth : Method} {c : Code} {D : va_G} {ad : Nat → Nat} {cI cJ cZ : ClassId} {res : Int32} (hm : mx p s m args meth c cX8_countIn 4 (some .int) wsX8_countIn RX8) (hR : 1 ≤ R.frames ∧ 21 ≤ R.locals) (hK : va_K D vwCl (tyw cI cJ cZ) s) (hD : ∀ σ, va_D (aM ad) (wM ad cI cJ cZ σ)) (σ : SS) (k4 : Int32 → Int32 → Int32 → Option (Int32)) (hk4 : ∀ (v1 : Int32) (v2 : Int32) (v3 : Int32), k4 v1 v2 v3 = some res → ∀ (H : Heap) (locs : List Loc) (ls : Array Slot), va_P D vwCl (wM ad cI cJ cZ σ) H → va_S (aM ad) s.heap H locs → lv_has ls 4 [(0, .ref (ad 0)), (1, .int v1), (2, .int v2), (3, .int v3)] → W p l e R s m args below meth c H locs 0 0 (MQ below (va_Qi (fun (r : Int32) (u : SS) => r = res ∧ u = σ) (fun u t => va_P D vwCl (wM ad cI cJ cZ u) t.heap) (aM ad)) args s 0 0 (aM ad)) (F0 m 4 ls [])) (v1 : Int32) (v3 : Int32) (t0 : Int32) (hf : p_X8_countIn_41 σ k4 v1 v3 t0 = some res) (H : Heap) (locs : List Loc) (ls : Array Slot) (hP : va_P D vwCl (wM ad cI cJ cZ σ) H) (hS : va_S (aM ad) s.heap H locs) (hl : lv_has ls 4 [(0, .ref (ad 0)), (1, .int v1), (3, .int v3)]) : W p l e R s m args below meth c H locs 0 0 (MQ below (va_Qi (fun (r : Int32) (u : SS) => r = res ∧ u = σ) (fun u t => va_P D vwCl (wM ad cI cJ cZ u) t.heap) (aM ad)) args s 0 0 (aM ad)) (F0 m 41 ls [.int t0]) := by
  obtain ⟨hx, hb, hr, hml, hown, hts, hlk⟩ := id hm
  unfold p_X8_countIn_41 at hf
  refine lv_iload_n hx hb dX8_countIn_41 rfl (lv_at hl 1 rfl) ?_
  refine lv_bipush (v := 9) hx hb dX8_countIn_42 (by decide) ?_
  refine lv_icmp_ne (tgt := 59) hx hb dX8_countIn_44 (by decide) (fun c_44 => ?_) (fun c_44 => ?_)
  · rw [if_neg c_44] at hf
    exact w_X8_countIn_59 hm hR hK hD σ k4 hk4 v1 v3 t0 hf _ _ _ hP hS (lv_sub hl [0, 1, 2] rfl)
  · rw [if_pos c_44] at hf
    refine lv_aload_n hx hb dX8_countIn_47 rfl (lv_at hl 0 rfl) ?_
    refine lv_iload_n hx hb dX8_countIn_48 rfl (lv_at hl 2 rfl) ?_
    obtain ⟨r_49, hg_49, hf⟩ := oc_e hf
    refine mV_ri (wd := wM ad cI cJ cZ) (σ := σ) (As := [.int v3]) (rest := [.int t0]) ⟨hx, hb, hml, hown, hts⟩ hK hP hD hS (c_X8_isRecursive l D ad cI cJ cZ σ v3 hg_49) (cwV 1 hts gX8_countIn_X8_isRecursive rfl rfl rfl hd_X8_isRecursive ⟨Nat.le_trans (Nat.le_of_ble_eq_true rfl) hR.1, Nat.le_trans (Nat.le_of_ble_eq_true rfl) hR.2⟩) rfl (wM_0 _ _ _ _ _) rfl hl.1 rfl (Nat.le_of_ble_eq_true rfl) dX8_countIn_49 (fun H locs hP hS => ?_)
    refine lv_if_eq (tgt := 59) hx hb dX8_countIn_52 (by decide) (fun c_52 => ?_) (fun c_52 => ?_)
    · rw [if_pos c_52] at hf
      exact w_X8_countIn_59 hm hR hK hD σ k4 hk4 v1 v3 t0 hf _ _ _ hP hS (lv_sub hl [0, 1, 2] rfl)
    · rw [if_neg c_52] at hf
      exact w_X8_countIn_55 hm hR hK hD σ k4 hk4 v1 v3 t0 hf _ _ _ hP hS (lv_sub hl [0, 1, 2] rfl)
def p_X8_countIn_27 (σ : SS) (k4 : Int32 → Int32 → Int32 → Option (Int32)) (v1 : Int32) (v3 : Int32) (t0 : Int32) : Option (Int32) := if v1 = 4 then oi v3 48 (if (σ.1 14 v3.toNatClampNeg) = 0 then p_X8_countIn_41 σ k4 v1 v3 t0 else p_X8_countIn_55 σ k4 v1 v3 t0) else p_X8_countIn_41 σ k4 v1 v3 t0
set_option maxHeartbeats 4000000 in
set_option maxRecDepth 100000 in
theorem w_X8_countIn_27 {p : Program} {l : Launch} {e : Env} {R : Room} {s : State} {m : MethodId} {args : Array Value} {below : List Frame} {meth : Method} {c : Code} {D : va_G} {ad : Nat → Nat} {cI cJ cZ : ClassId} {res : Int32} (hm : mx p s m args meth c cX8_countIn 4 (some .int) wsX8_countIn RX8) (hR : 1 ≤ R.frames ∧ 21 ≤ R.locals) (hK : va_K D vwCl (tyw cI cJ cZ) s) (hD : ∀ σ, va_D (aM ad) (wM ad cI cJ cZ σ)) (σ : SS) (k4 : Int32 → Int32 → Int32 → Option (Int32)) (hk4 : ∀ (v1 : Int32) (v2 : Int32) (v3 : Int32), k4 v1 v2 v3 = some res → ∀ (H : Heap) (locs : List Loc) (ls : Array Slot), va_P D vwCl (wM ad cI cJ cZ σ) H → va_S (aM ad) s.heap H locs → lv_has ls 4 [(0, .ref (ad 0)), (1, .int v1), (2, .int v2), (3, .int v3)] → W p l e R s m args below meth c H locs 0 0 (MQ below (va_Qi (fun (r : Int32) (u : SS) => r = res ∧ u = σ) (fun u t => va_P D vwCl (wM ad cI cJ cZ u) t.heap) (aM ad)) args s 0 0 (aM ad)) (F0 m 4 ls [])) (v1 : Int32) (v3 : Int32) (t0 : Int32) (hf : p_X8_countIn_27 σ k4 v1 v3 t0 = some res) (H : Heap) (locs : List Loc) (ls : Array Slot) (hP : va_P D vwCl (wM ad cI cJ cZ σ) H) (hS : va_S (aM ad) s.heap H locs) (hl : lv_has ls 4 [(0, .ref (ad 0)), (1, .int v1), (3, .int v3)]) : W p l e R s m args below meth c H locs 0 0 (MQ below (va_Qi (fun (r : Int32) (u : SS) => r = res ∧ u = σ) (fun u t => va_P D vwCl (wM ad cI cJ cZ u) t.heap) (aM ad)) args s 0 0 (aM ad)) (F0 m 27 ls [.int t0]) := by
  obtain ⟨hx, hb, hr, hml, hown, hts, hlk⟩ := id hm
  unfold p_X8_countIn_27 at hf
  refine lv_iload_n hx hb dX8_countIn_27 rfl (lv_at hl 1 rfl) ?_
  refine lv_iconst (v := 4) hx hb dX8_countIn_28 (by decide) ?_
  refine lv_icmp_ne (tgt := 41) hx hb dX8_countIn_29 (by decide) (fun c_29 => ?_) (fun c_29 => ?_)
  · rw [if_neg c_29] at hf
    exact w_X8_countIn_41 hm hR hK hD σ k4 hk4 v1 v3 t0 hf _ _ _ hP hS (lv_sub hl [0, 1, 2] rfl)
  · rw [if_pos c_29] at hf
    refine lv_aload_n hx hb dX8_countIn_32 rfl (lv_at hl 0 rfl) ?_
    refine va_get (D := D) (ci := 7) (v := .ref (ad 14)) (C := RX8) (T := TX8) (N := 50) hx hb hts in_X8_countIn_X8 hown hK hP 0 (wM_0 _ _ _ _ _) rfl 18 (by decide) (hts (.fieldLink RX8 50 "CallGraphsModel" "reached" "[Z") (List.mem_of_getElem? (i := 3) rfl)) (fun _ h9 => h9) (fM_0_18 _ _) dX8_countIn_33 ?_
    refine lv_iload_n hx hb dX8_countIn_36 rfl (lv_at hl 2 rfl) ?_
    obtain ⟨h_37, hf⟩ := oi_e hf
    refine va_zald hx hb hK hP 14 2 (wM_14 _ _ _ _ _) rfl h_37 dX8_countIn_37 ?_
    refine lv_if_ne (tgt := 55) hx hb dX8_countIn_38 (by decide) (fun c_38 => ?_) (fun c_38 => ?_)
    · rw [if_neg c_38] at hf
      exact w_X8_countIn_55 hm hR hK hD σ k4 hk4 v1 v3 t0 hf _ _ _ hP hS (lv_sub hl [0, 1, 2] rfl)
    · rw [if_pos c_38] at hf
      exact w_X8_countIn_41 hm hR hK hD σ k4 hk4 v1 v3 t0 hf _ _ _ hP hS (lv_sub hl [0, 1, 2] rfl)
def p_X8_countIn_113 (σ : SS) (k70 : Int32 → Int32 → Int32 → Option (Int32)) (v1 : Int32) (v3 : Int32) (t0 : Int32) (t1 : Int32) : Option (Int32) := k70 v1 (t1 + t0) (v3 + 1)
set_option maxHeartbeats 4000000 in
set_option maxRecDepth 100000 in
theorem w_X8_countIn_113 {p : Program} {l : Launch} {e : Env} {R : Room} {s : State} {m : MethodId} {args : Array Value} {below : List Frame} {meth : Method} {c : Code} {D : va_G} {ad : Nat → Nat} {cI cJ cZ : ClassId} {res : Int32} (hm : mx p s m args meth c cX8_countIn 4 (some .int) wsX8_countIn RX8) (hR : 1 ≤ R.frames ∧ 21 ≤ R.locals) (hK : va_K D vwCl (tyw cI cJ cZ) s) (hD : ∀ σ, va_D (aM ad) (wM ad cI cJ cZ σ)) (σ : SS) (k70 : Int32 → Int32 → Int32 → Option (Int32)) (hk70 : ∀ (v1 : Int32) (v2 : Int32) (v3 : Int32), k70 v1 v2 v3 = some res → ∀ (H : Heap) (locs : List Loc) (ls : Array Slot), va_P D vwCl (wM ad cI cJ cZ σ) H → va_S (aM ad) s.heap H locs → lv_has ls 4 [(0, .ref (ad 0)), (1, .int v1), (2, .int v2), (3, .int v3)] → W p l e R s m args below meth c H locs 0 0 (MQ below (va_Qi (fun (r : Int32) (u : SS) => r = res ∧ u = σ) (fun u t => va_P D vwCl (wM ad cI cJ cZ u) t.heap) (aM ad)) args s 0 0 (aM ad)) (F0 m 70 ls [])) (v1 : Int32) (v3 : Int32) (t0 : Int32) (t1 : Int32) (hf : p_X8_countIn_113 σ k70 v1 v3 t0 t1 = some res) (H : Heap) (locs : List Loc) (ls : Array Slot) (hP : va_P D vwCl (wM ad cI cJ cZ σ) H) (hS : va_S (aM ad) s.heap H locs) (hl : lv_has ls 4 [(0, .ref (ad 0)), (1, .int v1), (3, .int v3)]) : W p l e R s m args below meth c H locs 0 0 (MQ below (va_Qi (fun (r : Int32) (u : SS) => r = res ∧ u = σ) (fun u t => va_P D vwCl (wM ad cI cJ cZ u) t.heap) (aM ad)) args s 0 0 (aM ad)) (F0 m 113 ls [.int t0, .int t1]) := by
  obtain ⟨hx, hb, hr, hml, hown, hts, hlk⟩ := id hm
  unfold p_X8_countIn_113 at hf
  refine lv_iadd hx hb dX8_countIn_113 ?_
  refine lv_istore_n (lv' := [(2, .int (t1 + t0)), (0, .ref (ad 0)), (1, .int v1), (3, .int v3)]) hx hb dX8_countIn_114 rfl hl (by decide) rfl (fun ls hl => ?_)
  refine lv_iinc (v := (v3 + 1)) (lv' := [(3, .int (v3 + 1)), (2, .int (t1 + t0)), (0, .ref (ad 0)), (1, .int v1)]) hx hb dX8_countIn_115 hl (k := 3) rfl rfl (by decide) rfl (fun ls hl => ?_)
  refine lv_goto (tgt := 70) hx hb dX8_countIn_118 (by decide) ?_
  exact hk70 v1 (t1 + t0) (v3 + 1) hf _ _ _ hP hS (lv_sub hl [2, 3, 1, 0] rfl)
def p_X8_countIn_108 (σ : SS) (k70 : Int32 → Int32 → Int32 → Option (Int32)) (v1 : Int32) (v3 : Int32) (t0 : Int32) : Option (Int32) := p_X8_countIn_113 σ k70 v1 v3 1 t0
set_option maxHeartbeats 4000000 in
set_option maxRecDepth 100000 in
theorem w_X8_countIn_108 {p : Program} {l : Launch} {e : Env} {R : Room} {s : State} {m : MethodId} {args : Array Value} {below : List Frame} {meth : Method} {c : Code} {D : va_G} {ad : Nat → Nat} {cI cJ cZ : ClassId} {res : Int32} (hm : mx p s m args meth c cX8_countIn 4 (some .int) wsX8_countIn RX8) (hR : 1 ≤ R.frames ∧ 21 ≤ R.locals) (hK : va_K D vwCl (tyw cI cJ cZ) s) (hD : ∀ σ, va_D (aM ad) (wM ad cI cJ cZ σ)) (σ : SS) (k70 : Int32 → Int32 → Int32 → Option (Int32)) (hk70 : ∀ (v1 : Int32) (v2 : Int32) (v3 : Int32), k70 v1 v2 v3 = some res → ∀ (H : Heap) (locs : List Loc) (ls : Array Slot), va_P D vwCl (wM ad cI cJ cZ σ) H → va_S (aM ad) s.heap H locs → lv_has ls 4 [(0, .ref (ad 0)), (1, .int v1), (2, .int v2), (3, .int v3)] → W p l e R s m args below meth c H locs 0 0 (MQ below (va_Qi (fun (r : Int32) (u : SS) => r = res ∧ u = σ) (fun u t => va_P D vwCl (wM ad cI cJ cZ u) t.heap) (aM ad)) args s 0 0 (aM ad)) (F0 m 70 ls [])) (v1 : Int32) (v3 : Int32) (t0 : Int32) (hf : p_X8_countIn_108 σ k70 v1 v3 t0 = some res) (H : Heap) (locs : List Loc) (ls : Array Slot) (hP : va_P D vwCl (wM ad cI cJ cZ σ) H) (hS : va_S (aM ad) s.heap H locs) (hl : lv_has ls 4 [(0, .ref (ad 0)), (1, .int v1), (3, .int v3)]) : W p l e R s m args below meth c H locs 0 0 (MQ below (va_Qi (fun (r : Int32) (u : SS) => r = res ∧ u = σ) (fun u t => va_P D vwCl (wM ad cI cJ cZ u) t.heap) (aM ad)) args s 0 0 (aM ad)) (F0 m 108 ls [.int t0]) := by
  obtain ⟨hx, hb, hr, hml, hown, hts, hlk⟩ := id hm
  unfold p_X8_countIn_108 at hf
  refine lv_iconst (v := 1) hx hb dX8_countIn_108 (by decide) ?_
  refine lv_goto (tgt := 113) hx hb dX8_countIn_109 (by decide) ?_
  exact w_X8_countIn_113 hm hR hK hD σ k70 hk70 v1 v3 1 t0 hf _ _ _ hP hS (lv_sub hl [0, 1, 2] rfl)
def p_X8_countIn_112 (σ : SS) (k70 : Int32 → Int32 → Int32 → Option (Int32)) (v1 : Int32) (v3 : Int32) (t0 : Int32) : Option (Int32) := p_X8_countIn_113 σ k70 v1 v3 0 t0
set_option maxHeartbeats 4000000 in
set_option maxRecDepth 100000 in
theorem w_X8_countIn_112 {p : Program} {l : Launch} {e : Env} {R : Room} {s : State} {m : MethodId} {args : Array Value} {below : List Frame} {meth : Method} {c : Code} {D : va_G} {ad : Nat → Nat} {cI cJ cZ : ClassId} {res : Int32} (hm : mx p s m args meth c cX8_countIn 4 (some .int) wsX8_countIn RX8) (hR : 1 ≤ R.frames ∧ 21 ≤ R.locals) (hK : va_K D vwCl (tyw cI cJ cZ) s) (hD : ∀ σ, va_D (aM ad) (wM ad cI cJ cZ σ)) (σ : SS) (k70 : Int32 → Int32 → Int32 → Option (Int32)) (hk70 : ∀ (v1 : Int32) (v2 : Int32) (v3 : Int32), k70 v1 v2 v3 = some res → ∀ (H : Heap) (locs : List Loc) (ls : Array Slot), va_P D vwCl (wM ad cI cJ cZ σ) H → va_S (aM ad) s.heap H locs → lv_has ls 4 [(0, .ref (ad 0)), (1, .int v1), (2, .int v2), (3, .int v3)] → W p l e R s m args below meth c H locs 0 0 (MQ below (va_Qi (fun (r : Int32) (u : SS) => r = res ∧ u = σ) (fun u t => va_P D vwCl (wM ad cI cJ cZ u) t.heap) (aM ad)) args s 0 0 (aM ad)) (F0 m 70 ls [])) (v1 : Int32) (v3 : Int32) (t0 : Int32) (hf : p_X8_countIn_112 σ k70 v1 v3 t0 = some res) (H : Heap) (locs : List Loc) (ls : Array Slot) (hP : va_P D vwCl (wM ad cI cJ cZ σ) H) (hS : va_S (aM ad) s.heap H locs) (hl : lv_has ls 4 [(0, .ref (ad 0)), (1, .int v1), (3, .int v3)]) : W p l e R s m args below meth c H locs 0 0 (MQ below (va_Qi (fun (r : Int32) (u : SS) => r = res ∧ u = σ) (fun u t => va_P D vwCl (wM ad cI cJ cZ u) t.heap) (aM ad)) args s 0 0 (aM ad)) (F0 m 112 ls [.int t0]) := by
  obtain ⟨hx, hb, hr, hml, hown, hts, hlk⟩ := id hm
  unfold p_X8_countIn_112 at hf
  refine lv_iconst (v := 0) hx hb dX8_countIn_112 (by decide) ?_
  exact w_X8_countIn_113 hm hR hK hD σ k70 hk70 v1 v3 0 t0 hf _ _ _ hP hS (lv_sub hl [0, 1, 2] rfl)
def p_X8_countIn_93 (σ : SS) (k70 : Int32 → Int32 → Int32 → Option (Int32)) (v1 : Int32) (v3 : Int32) (t0 : Int32) : Option (Int32) := if v1 = 6 then oi v3 16 (if (σ.1 16 v3.toNatClampNeg) = 0 then p_X8_countIn_112 σ k70 v1 v3 t0 else p_X8_countIn_108 σ k70 v1 v3 t0) else p_X8_countIn_112 σ k70 v1 v3 t0
set_option maxHeartbeats 4000000 in
set_option maxRecDepth 100000 in
theorem w_X8_countIn_93 {p : Program} {l : Launch} {e : Env} {R : Room} {s : State} {m : MethodId} {args : Array Value} {below : List Frame} {meth : Method} {c : Code} {D : va_G} {ad : Nat → Nat} {cI cJ cZ : ClassId} {res : Int32} (hm : mx p s m args meth c cX8_countIn 4 (some .int) wsX8_countIn RX8) (hR : 1 ≤ R.frames ∧ 21 ≤ R.locals) (hK : va_K D vwCl (tyw cI cJ cZ) s) (hD : ∀ σ, va_D (aM ad) (wM ad cI cJ cZ σ)) (σ : SS) (k70 : Int32 → Int32 → Int32 → Option (Int32)) (hk70 : ∀ (v1 : Int32) (v2 : Int32) (v3 : Int32), k70 v1 v2 v3 = some res → ∀ (H : Heap) (locs : List Loc) (ls : Array Slot), va_P D vwCl (wM ad cI cJ cZ σ) H → va_S (aM ad) s.heap H locs → lv_has ls 4 [(0, .ref (ad 0)), (1, .int v1), (2, .int v2), (3, .int v3)] → W p l e R s m args below meth c H locs 0 0 (MQ below (va_Qi (fun (r : Int32) (u : SS) => r = res ∧ u = σ) (fun u t => va_P D vwCl (wM ad cI cJ cZ u) t.heap) (aM ad)) args s 0 0 (aM ad)) (F0 m 70 ls [])) (v1 : Int32) (v3 : Int32) (t0 : Int32) (hf : p_X8_countIn_93 σ k70 v1 v3 t0 = some res) (H : Heap) (locs : List Loc) (ls : Array Slot) (hP : va_P D vwCl (wM ad cI cJ cZ σ) H) (hS : va_S (aM ad) s.heap H locs) (hl : lv_has ls 4 [(0, .ref (ad 0)), (1, .int v1), (3, .int v3)]) : W p l e R s m args below meth c H locs 0 0 (MQ below (va_Qi (fun (r : Int32) (u : SS) => r = res ∧ u = σ) (fun u t => va_P D vwCl (wM ad cI cJ cZ u) t.heap) (aM ad)) args s 0 0 (aM ad)) (F0 m 93 ls [.int t0]) := by
  obtain ⟨hx, hb, hr, hml, hown, hts, hlk⟩ := id hm
  unfold p_X8_countIn_93 at hf
  refine lv_iload_n hx hb dX8_countIn_93 rfl (lv_at hl 1 rfl) ?_
  refine lv_bipush (v := 6) hx hb dX8_countIn_94 (by decide) ?_
  refine lv_icmp_ne (tgt := 112) hx hb dX8_countIn_96 (by decide) (fun c_96 => ?_) (fun c_96 => ?_)
  · rw [if_neg c_96] at hf
    exact w_X8_countIn_112 hm hR hK hD σ k70 hk70 v1 v3 t0 hf _ _ _ hP hS (lv_sub hl [0, 1, 2] rfl)
  · rw [if_pos c_96] at hf
    refine lv_aload_n hx hb dX8_countIn_99 rfl (lv_at hl 0 rfl) ?_
    refine va_get (D := D) (ci := 7) (v := .ref (ad 16)) (C := RX8) (T := TX8) (N := 50) hx hb hts in_X8_countIn_X8 hown hK hP 0 (wM_0 _ _ _ _ _) rfl 20 (by decide) (hts (.fieldLink RX8 56 "CallGraphsModel" "begunAt" "[Z") (List.mem_of_getElem? (i := 6) rfl)) (fun _ h9 => h9) (fM_0_20 _ _) dX8_countIn_100 ?_
    refine lv_iload_n hx hb dX8_countIn_103 rfl (lv_at hl 2 rfl) ?_
    obtain ⟨h_104, hf⟩ := oi_e hf
    refine va_zald hx hb hK hP 16 2 (wM_16 _ _ _ _ _) rfl h_104 dX8_countIn_104 ?_
    refine lv_if_eq (tgt := 112) hx hb dX8_countIn_105 (by decide) (fun c_105 => ?_) (fun c_105 => ?_)
    · rw [if_pos c_105] at hf
      exact w_X8_countIn_112 hm hR hK hD σ k70 hk70 v1 v3 t0 hf _ _ _ hP hS (lv_sub hl [0, 1, 2] rfl)
    · rw [if_neg c_105] at hf
      exact w_X8_countIn_108 hm hR hK hD σ k70 hk70 v1 v3 t0 hf _ _ _ hP hS (lv_sub hl [0, 1, 2] rfl)
def p_X8_countIn_151 (σ : SS) (k123 : Int32 → Int32 → Int32 → Option (Int32)) (v1 : Int32) (v3 : Int32) (t0 : Int32) (t1 : Int32) : Option (Int32) := k123 v1 (t1 + t0) (v3 + 1)
set_option maxHeartbeats 4000000 in
set_option maxRecDepth 100000 in
theorem w_X8_countIn_151 {p : Program} {l : Launch} {e : Env} {R : Room} {s : State} {m : MethodId} {args : Array Value} {below : List Frame} {meth : Method} {c : Code} {D : va_G} {ad : Nat → Nat} {cI cJ cZ : ClassId} {res : Int32} (hm : mx p s m args meth c cX8_countIn 4 (some .int) wsX8_countIn RX8) (hR : 1 ≤ R.frames ∧ 21 ≤ R.locals) (hK : va_K D vwCl (tyw cI cJ cZ) s) (hD : ∀ σ, va_D (aM ad) (wM ad cI cJ cZ σ)) (σ : SS) (k123 : Int32 → Int32 → Int32 → Option (Int32)) (hk123 : ∀ (v1 : Int32) (v2 : Int32) (v3 : Int32), k123 v1 v2 v3 = some res → ∀ (H : Heap) (locs : List Loc) (ls : Array Slot), va_P D vwCl (wM ad cI cJ cZ σ) H → va_S (aM ad) s.heap H locs → lv_has ls 4 [(0, .ref (ad 0)), (1, .int v1), (2, .int v2), (3, .int v3)] → W p l e R s m args below meth c H locs 0 0 (MQ below (va_Qi (fun (r : Int32) (u : SS) => r = res ∧ u = σ) (fun u t => va_P D vwCl (wM ad cI cJ cZ u) t.heap) (aM ad)) args s 0 0 (aM ad)) (F0 m 123 ls [])) (v1 : Int32) (v3 : Int32) (t0 : Int32) (t1 : Int32) (hf : p_X8_countIn_151 σ k123 v1 v3 t0 t1 = some res) (H : Heap) (locs : List Loc) (ls : Array Slot) (hP : va_P D vwCl (wM ad cI cJ cZ σ) H) (hS : va_S (aM ad) s.heap H locs) (hl : lv_has ls 4 [(0, .ref (ad 0)), (1, .int v1), (3, .int v3)]) : W p l e R s m args below meth c H locs 0 0 (MQ below (va_Qi (fun (r : Int32) (u : SS) => r = res ∧ u = σ) (fun u t => va_P D vwCl (wM ad cI cJ cZ u) t.heap) (aM ad)) args s 0 0 (aM ad)) (F0 m 151 ls [.int t0, .int t1]) := by
  obtain ⟨hx, hb, hr, hml, hown, hts, hlk⟩ := id hm
  unfold p_X8_countIn_151 at hf
  refine lv_iadd hx hb dX8_countIn_151 ?_
  refine lv_istore_n (lv' := [(2, .int (t1 + t0)), (0, .ref (ad 0)), (1, .int v1), (3, .int v3)]) hx hb dX8_countIn_152 rfl hl (by decide) rfl (fun ls hl => ?_)
  refine lv_iinc (v := (v3 + 1)) (lv' := [(3, .int (v3 + 1)), (2, .int (t1 + t0)), (0, .ref (ad 0)), (1, .int v1)]) hx hb dX8_countIn_153 hl (k := 3) rfl rfl (by decide) rfl (fun ls hl => ?_)
  refine lv_goto (tgt := 123) hx hb dX8_countIn_156 (by decide) ?_
  exact hk123 v1 (t1 + t0) (v3 + 1) hf _ _ _ hP hS (lv_sub hl [2, 3, 1, 0] rfl)
def p_X8_countIn_189 (σ : SS) (v2 : Int32) : Option (Int32) := some v2
set_option maxHeartbeats 4000000 in
set_option maxRecDepth 100000 in
theorem w_X8_countIn_189 {p : Program} {l : Launch} {e : Env} {R : Room} {s : State} {m : MethodId} {args : Array Value} {below : List Frame} {meth : Method} {c : Code} {D : va_G} {ad : Nat → Nat} {cI cJ cZ : ClassId} {res : Int32} (hm : mx p s m args meth c cX8_countIn 4 (some .int) wsX8_countIn RX8) (hR : 1 ≤ R.frames ∧ 21 ≤ R.locals) (hK : va_K D vwCl (tyw cI cJ cZ) s) (hD : ∀ σ, va_D (aM ad) (wM ad cI cJ cZ σ)) (σ : SS) (v2 : Int32) (hf : p_X8_countIn_189 σ v2 = some res) (H : Heap) (locs : List Loc) (ls : Array Slot) (hP : va_P D vwCl (wM ad cI cJ cZ σ) H) (hS : va_S (aM ad) s.heap H locs) (hl : lv_has ls 4 [(2, .int v2)]) : W p l e R s m args below meth c H locs 0 0 (MQ below (va_Qi (fun (r : Int32) (u : SS) => r = res ∧ u = σ) (fun u t => va_P D vwCl (wM ad cI cJ cZ u) t.heap) (aM ad)) args s 0 0 (aM ad)) (F0 m 189 ls []) := by
  obtain ⟨hx, hb, hr, hml, hown, hts, hlk⟩ := id hm
  unfold p_X8_countIn_189 at hf
  refine lv_iload_n hx hb dX8_countIn_189 rfl (lv_at hl 0 rfl) ?_
  exact rt_i (wd := wM ad cI cJ cZ) hx hb hr hlk ⟨Option.some.inj hf, rfl⟩ hP hS dX8_countIn_190
def p_X8_countIn_161 (σ : SS) : Nat → Int32 → Int32 → Int32 → Option (Int32)
  | 0, _, _, _ => none
  | n + 1, v1, v2, v3 => let k161 := p_X8_countIn_161 σ n; if 640 ≤ v3 then p_X8_countIn_189 σ v2 else if v1 = 8 then oi v3 640 (k161 v1 (v2 + (σ.1 19 v3.toNatClampNeg)) (v3 + 1)) else p_X8_countIn_189 σ v2
set_option maxHeartbeats 4000000 in
set_option maxRecDepth 100000 in
theorem w_X8_countIn_161 {p : Program} {l : Launch} {e : Env} {R : Room} {s : State} {m : MethodId} {args : Array Value} {below : List Frame} {meth : Method} {c : Code} {D : va_G} {ad : Nat → Nat} {cI cJ cZ : ClassId} {res : Int32} (hm : mx p s m args meth c cX8_countIn 4 (some .int) wsX8_countIn RX8) (hR : 1 ≤ R.frames ∧ 21 ≤ R.locals) (hK : va_K D vwCl (tyw cI cJ cZ) s) (hD : ∀ σ, va_D (aM ad) (wM ad cI cJ cZ σ)) (σ : SS) : ∀ (n : Nat) (v1 : Int32) (v2 : Int32) (v3 : Int32), p_X8_countIn_161 σ n v1 v2 v3 = some res → ∀ (H : Heap) (locs : List Loc) (ls : Array Slot), va_P D vwCl (wM ad cI cJ cZ σ) H → va_S (aM ad) s.heap H locs → lv_has ls 4 [(0, .ref (ad 0)), (1, .int v1), (2, .int v2), (3, .int v3)] → W p l e R s m args below meth c H locs 0 0 (MQ below (va_Qi (fun (r : Int32) (u : SS) => r = res ∧ u = σ) (fun u t => va_P D vwCl (wM ad cI cJ cZ u) t.heap) (aM ad)) args s 0 0 (aM ad)) (F0 m 161 ls []) := by
  obtain ⟨hx, hb, hr, hml, hown, hts, hlk⟩ := id hm
  intro n
  induction n with
  | zero =>
    intro _ _ _ hf
    cases hf
  | succ n hk161 =>
    intro v1 v2 v3 hf H locs ls hP hS hl
    rw [p_X8_countIn_161] at hf
    try dsimp only at hf
    refine lv_iload_n hx hb dX8_countIn_161 rfl (lv_at hl 3 rfl) ?_
    refine lv_sipush (v := 640) hx hb dX8_countIn_162 (by decide) ?_
    refine lv_icmp_ge (tgt := 189) hx hb dX8_countIn_165 (by decide) (fun c_165 => ?_) (fun c_165 => ?_)
    · rw [if_pos c_165] at hf
      exact w_X8_countIn_189 hm hR hK hD σ v2 hf _ _ _ hP hS (lv_sub hl [2] rfl)
    · rw [if_neg c_165] at hf
      refine lv_iload_n hx hb dX8_countIn_168 rfl (lv_at hl 1 rfl) ?_
      refine lv_bipush (v := 8) hx hb dX8_countIn_169 (by decide) ?_
      refine lv_icmp_ne (tgt := 189) hx hb dX8_countIn_171 (by decide) (fun c_171 => ?_) (fun c_171 => ?_)
      · rw [if_neg c_171] at hf
        exact w_X8_countIn_189 hm hR hK hD σ v2 hf _ _ _ hP hS (lv_sub hl [2] rfl)
      · rw [if_pos c_171] at hf
        refine lv_iload_n hx hb dX8_countIn_174 rfl (lv_at hl 2 rfl) ?_
        refine lv_aload_n hx hb dX8_countIn_175 rfl (lv_at hl 0 rfl) ?_
        refine va_get (D := D) (ci := 7) (v := .ref (ad 19)) (C := RX8) (T := TX8) (N := 50) hx hb hts in_X8_countIn_X8 hown hK hP 0 (wM_0 _ _ _ _ _) rfl 23 (by decide) (hts (.fieldLink RX8 65 "CallGraphsModel" "faultMany" "[I") (List.mem_of_getElem? (i := 8) rfl)) (fun _ h9 => h9) (fM_0_23 _ _) dX8_countIn_176 ?_
        refine lv_iload_n hx hb dX8_countIn_179 rfl (lv_at hl 3 rfl) ?_
        obtain ⟨h_180, hf⟩ := oi_e hf
        refine va_iald hx hb hK hP 19 0 (wM_19 _ _ _ _ _) rfl h_180 dX8_countIn_180 ?_
        refine lv_iadd hx hb dX8_countIn_181 ?_
        refine lv_istore_n (lv' := [(2, .int (v2 + (σ.1 19 v3.toNatClampNeg))), (0, .ref (ad 0)), (1, .int v1), (3, .int v3)]) hx hb dX8_countIn_182 rfl hl (by decide) rfl (fun ls hl => ?_)
        refine lv_iinc (v := (v3 + 1)) (lv' := [(3, .int (v3 + 1)), (2, .int (v2 + (σ.1 19 v3.toNatClampNeg))), (0, .ref (ad 0)), (1, .int v1)]) hx hb dX8_countIn_183 hl (k := 3) rfl rfl (by decide) rfl (fun ls hl => ?_)
        refine lv_goto (tgt := 161) hx hb dX8_countIn_186 (by decide) ?_
        exact hk161 v1 (v2 + (σ.1 19 v3.toNatClampNeg)) (v3 + 1) hf _ _ _ hP hS (lv_sub hl [2, 3, 1, 0] rfl)
def p_X8_countIn_159 (σ : SS) (v1 : Int32) (v2 : Int32) : Option (Int32) := p_X8_countIn_161 σ 100000 v1 v2 0
set_option maxHeartbeats 4000000 in
set_option maxRecDepth 100000 in
theorem w_X8_countIn_159 {p : Program} {l : Launch} {e : Env} {R : Room} {s : State} {m : MethodId} {args : Array Value} {below : List Frame} {meth : Method} {c : Code} {D : va_G} {ad : Nat → Nat} {cI cJ cZ : ClassId} {res : Int32} (hm : mx p s m args meth c cX8_countIn 4 (some .int) wsX8_countIn RX8) (hR : 1 ≤ R.frames ∧ 21 ≤ R.locals) (hK : va_K D vwCl (tyw cI cJ cZ) s) (hD : ∀ σ, va_D (aM ad) (wM ad cI cJ cZ σ)) (σ : SS) (v1 : Int32) (v2 : Int32) (hf : p_X8_countIn_159 σ v1 v2 = some res) (H : Heap) (locs : List Loc) (ls : Array Slot) (hP : va_P D vwCl (wM ad cI cJ cZ σ) H) (hS : va_S (aM ad) s.heap H locs) (hl : lv_has ls 4 [(0, .ref (ad 0)), (1, .int v1), (2, .int v2)]) : W p l e R s m args below meth c H locs 0 0 (MQ below (va_Qi (fun (r : Int32) (u : SS) => r = res ∧ u = σ) (fun u t => va_P D vwCl (wM ad cI cJ cZ u) t.heap) (aM ad)) args s 0 0 (aM ad)) (F0 m 159 ls []) := by
  obtain ⟨hx, hb, hr, hml, hown, hts, hlk⟩ := id hm
  unfold p_X8_countIn_159 at hf
  refine lv_iconst (v := 0) hx hb dX8_countIn_159 (by decide) ?_
  refine lv_istore_n (lv' := [(3, .int 0), (0, .ref (ad 0)), (1, .int v1), (2, .int v2)]) hx hb dX8_countIn_160 rfl hl (by decide) rfl (fun ls hl => ?_)
  exact w_X8_countIn_161 hm hR hK hD σ 100000 v1 v2 0 hf _ _ _ hP hS (lv_sub hl [1, 2, 3, 0] rfl)
def p_X8_countIn_123 (σ : SS) : Nat → Int32 → Int32 → Int32 → Option (Int32)
  | 0, _, _, _ => none
  | n + 1, v1, v2, v3 => let k123 := p_X8_countIn_123 σ n; if 7680 ≤ v3 then p_X8_countIn_159 σ v1 v2 else if v1 = 7 then oi v3 7680 (if (σ.1 18 v3.toNatClampNeg) = 0 then p_X8_countIn_151 σ k123 v1 v3 0 v2 else p_X8_countIn_151 σ k123 v1 v3 1 v2) else p_X8_countIn_159 σ v1 v2
set_option maxHeartbeats 4000000 in
set_option maxRecDepth 100000 in
theorem w_X8_countIn_123 {p : Program} {l : Launch} {e : Env} {R : Room} {s : State} {m : MethodId} {args : Array Value} {below : List Frame} {meth : Method} {c : Code} {D : va_G} {ad : Nat → Nat} {cI cJ cZ : ClassId} {res : Int32} (hm : mx p s m args meth c cX8_countIn 4 (some .int) wsX8_countIn RX8) (hR : 1 ≤ R.frames ∧ 21 ≤ R.locals) (hK : va_K D vwCl (tyw cI cJ cZ) s) (hD : ∀ σ, va_D (aM ad) (wM ad cI cJ cZ σ)) (σ : SS) : ∀ (n : Nat) (v1 : Int32) (v2 : Int32) (v3 : Int32), p_X8_countIn_123 σ n v1 v2 v3 = some res → ∀ (H : Heap) (locs : List Loc) (ls : Array Slot), va_P D vwCl (wM ad cI cJ cZ σ) H → va_S (aM ad) s.heap H locs → lv_has ls 4 [(0, .ref (ad 0)), (1, .int v1), (2, .int v2), (3, .int v3)] → W p l e R s m args below meth c H locs 0 0 (MQ below (va_Qi (fun (r : Int32) (u : SS) => r = res ∧ u = σ) (fun u t => va_P D vwCl (wM ad cI cJ cZ u) t.heap) (aM ad)) args s 0 0 (aM ad)) (F0 m 123 ls []) := by
  obtain ⟨hx, hb, hr, hml, hown, hts, hlk⟩ := id hm
  intro n
  induction n with
  | zero =>
    intro _ _ _ hf
    cases hf
  | succ n hk123 =>
    intro v1 v2 v3 hf H locs ls hP hS hl
    rw [p_X8_countIn_123] at hf
    try dsimp only at hf
    refine lv_iload_n hx hb dX8_countIn_123 rfl (lv_at hl 3 rfl) ?_
    refine lv_sipush (v := 7680) hx hb dX8_countIn_124 (by decide) ?_
    refine lv_icmp_ge (tgt := 159) hx hb dX8_countIn_127 (by decide) (fun c_127 => ?_) (fun c_127 => ?_)
    · rw [if_pos c_127] at hf
      exact w_X8_countIn_159 hm hR hK hD σ v1 v2 hf _ _ _ hP hS (lv_sub hl [0, 1, 2] rfl)
    · rw [if_neg c_127] at hf
      refine lv_iload_n hx hb dX8_countIn_130 rfl (lv_at hl 1 rfl) ?_
      refine lv_bipush (v := 7) hx hb dX8_countIn_131 (by decide) ?_
      refine lv_icmp_ne (tgt := 159) hx hb dX8_countIn_133 (by decide) (fun c_133 => ?_) (fun c_133 => ?_)
      · rw [if_neg c_133] at hf
        exact w_X8_countIn_159 hm hR hK hD σ v1 v2 hf _ _ _ hP hS (lv_sub hl [0, 1, 2] rfl)
      · rw [if_pos c_133] at hf
        refine lv_iload_n hx hb dX8_countIn_136 rfl (lv_at hl 2 rfl) ?_
        refine lv_aload_n hx hb dX8_countIn_137 rfl (lv_at hl 0 rfl) ?_
        refine va_get (D := D) (ci := 7) (v := .ref (ad 18)) (C := RX8) (T := TX8) (N := 50) hx hb hts in_X8_countIn_X8 hown hK hP 0 (wM_0 _ _ _ _ _) rfl 22 (by decide) (hts (.fieldLink RX8 62 "CallGraphsModel" "calls" "[Z") (List.mem_of_getElem? (i := 7) rfl)) (fun _ h9 => h9) (fM_0_22 _ _) dX8_countIn_138 ?_
        refine lv_iload_n hx hb dX8_countIn_141 rfl (lv_at hl 3 rfl) ?_
        obtain ⟨h_142, hf⟩ := oi_e hf
        refine va_zald hx hb hK hP 18 2 (wM_18 _ _ _ _ _) rfl h_142 dX8_countIn_142 ?_
        refine lv_if_eq (tgt := 150) hx hb dX8_countIn_143 (by decide) (fun c_143 => ?_) (fun c_143 => ?_)
        · rw [if_pos c_143] at hf
          refine lv_iconst (v := 0) hx hb dX8_countIn_150 (by decide) ?_
          exact w_X8_countIn_151 hm hR hK hD σ (p_X8_countIn_123 σ n) hk123 v1 v3 0 v2 hf _ _ _ hP hS (lv_sub hl [0, 1, 3] rfl)
        · rw [if_neg c_143] at hf
          refine lv_iconst (v := 1) hx hb dX8_countIn_146 (by decide) ?_
          refine lv_goto (tgt := 151) hx hb dX8_countIn_147 (by decide) ?_
          exact w_X8_countIn_151 hm hR hK hD σ (p_X8_countIn_123 σ n) hk123 v1 v3 1 v2 hf _ _ _ hP hS (lv_sub hl [0, 1, 3] rfl)
def p_X8_countIn_70 (σ : SS) : Nat → Int32 → Int32 → Int32 → Option (Int32)
  | 0, _, _, _ => none
  | n + 1, v1, v2, v3 => let k70 := p_X8_countIn_70 σ n; if (σ.1 0 0) ≤ v3 then p_X8_countIn_123 σ 100000 v1 v2 0 else if v1 = 5 then oi v3 16 (if (σ.1 15 v3.toNatClampNeg) = 0 then p_X8_countIn_93 σ k70 v1 v3 v2 else p_X8_countIn_108 σ k70 v1 v3 v2) else p_X8_countIn_93 σ k70 v1 v3 v2
set_option maxHeartbeats 4000000 in
set_option maxRecDepth 100000 in
theorem w_X8_countIn_70 {p : Program} {l : Launch} {e : Env} {R : Room} {s : State} {m : MethodId} {args : Array Value} {below : List Frame} {meth : Method} {c : Code} {D : va_G} {ad : Nat → Nat} {cI cJ cZ : ClassId} {res : Int32} (hm : mx p s m args meth c cX8_countIn 4 (some .int) wsX8_countIn RX8) (hR : 1 ≤ R.frames ∧ 21 ≤ R.locals) (hK : va_K D vwCl (tyw cI cJ cZ) s) (hD : ∀ σ, va_D (aM ad) (wM ad cI cJ cZ σ)) (σ : SS) : ∀ (n : Nat) (v1 : Int32) (v2 : Int32) (v3 : Int32), p_X8_countIn_70 σ n v1 v2 v3 = some res → ∀ (H : Heap) (locs : List Loc) (ls : Array Slot), va_P D vwCl (wM ad cI cJ cZ σ) H → va_S (aM ad) s.heap H locs → lv_has ls 4 [(0, .ref (ad 0)), (1, .int v1), (2, .int v2), (3, .int v3)] → W p l e R s m args below meth c H locs 0 0 (MQ below (va_Qi (fun (r : Int32) (u : SS) => r = res ∧ u = σ) (fun u t => va_P D vwCl (wM ad cI cJ cZ u) t.heap) (aM ad)) args s 0 0 (aM ad)) (F0 m 70 ls []) := by
  obtain ⟨hx, hb, hr, hml, hown, hts, hlk⟩ := id hm
  intro n
  induction n with
  | zero =>
    intro _ _ _ hf
    cases hf
  | succ n hk70 =>
    intro v1 v2 v3 hf H locs ls hP hS hl
    rw [p_X8_countIn_70] at hf
    try dsimp only at hf
    refine lv_iload_n hx hb dX8_countIn_70 rfl (lv_at hl 3 rfl) ?_
    refine lv_aload_n hx hb dX8_countIn_71 rfl (lv_at hl 0 rfl) ?_
    refine va_get (D := D) (ci := 7) (v := .int (σ.1 0 0)) (C := RX8) (T := TX8) (N := 50) hx hb hts in_X8_countIn_X8 hown hK hP 0 (wM_0 _ _ _ _ _) rfl 0 (by decide) (hts (.fieldLink RX8 123 "CallGraphsModel" "types" "I") (List.mem_of_getElem? (i := 4) rfl)) (fun _ h9 => h9) (fM_0_0 _ _) dX8_countIn_72 ?_
    refine lv_icmp_ge (tgt := 121) hx hb dX8_countIn_75 (by decide) (fun c_75 => ?_) (fun c_75 => ?_)
    · rw [if_pos c_75] at hf
      refine lv_iconst (v := 0) hx hb dX8_countIn_121 (by decide) ?_
      refine lv_istore_n (lv' := [(3, .int 0), (0, .ref (ad 0)), (1, .int v1), (2, .int v2)]) hx hb dX8_countIn_122 rfl hl (by decide) rfl (fun ls hl => ?_)
      exact w_X8_countIn_123 hm hR hK hD σ 100000 v1 v2 0 hf _ _ _ hP hS (lv_sub hl [1, 2, 3, 0] rfl)
    · rw [if_neg c_75] at hf
      refine lv_iload_n hx hb dX8_countIn_78 rfl (lv_at hl 2 rfl) ?_
      refine lv_iload_n hx hb dX8_countIn_79 rfl (lv_at hl 1 rfl) ?_
      refine lv_iconst (v := 5) hx hb dX8_countIn_80 (by decide) ?_
      refine lv_icmp_ne (tgt := 93) hx hb dX8_countIn_81 (by decide) (fun c_81 => ?_) (fun c_81 => ?_)
      · rw [if_neg c_81] at hf
        exact w_X8_countIn_93 hm hR hK hD σ (p_X8_countIn_70 σ n) hk70 v1 v3 v2 hf _ _ _ hP hS (lv_sub hl [0, 1, 3] rfl)
      · rw [if_pos c_81] at hf
        refine lv_aload_n hx hb dX8_countIn_84 rfl (lv_at hl 0 rfl) ?_
        refine va_get (D := D) (ci := 7) (v := .ref (ad 15)) (C := RX8) (T := TX8) (N := 50) hx hb hts in_X8_countIn_X8 hown hK hP 0 (wM_0 _ _ _ _ _) rfl 19 (by decide) (hts (.fieldLink RX8 53 "CallGraphsModel" "madeAt" "[Z") (List.mem_of_getElem? (i := 5) rfl)) (fun _ h9 => h9) (fM_0_19 _ _) dX8_countIn_85 ?_
        refine lv_iload_n hx hb dX8_countIn_88 rfl (lv_at hl 3 rfl) ?_
        obtain ⟨h_89, hf⟩ := oi_e hf
        refine va_zald hx hb hK hP 15 2 (wM_15 _ _ _ _ _) rfl h_89 dX8_countIn_89 ?_
        refine lv_if_ne (tgt := 108) hx hb dX8_countIn_90 (by decide) (fun c_90 => ?_) (fun c_90 => ?_)
        · rw [if_neg c_90] at hf
          exact w_X8_countIn_108 hm hR hK hD σ (p_X8_countIn_70 σ n) hk70 v1 v3 v2 hf _ _ _ hP hS (lv_sub hl [0, 1, 3] rfl)
        · rw [if_pos c_90] at hf
          exact w_X8_countIn_93 hm hR hK hD σ (p_X8_countIn_70 σ n) hk70 v1 v3 v2 hf _ _ _ hP hS (lv_sub hl [0, 1, 3] rfl)
def p_X8_countIn_4 (σ : SS) : Nat → Int32 → Int32 → Int32 → Option (Int32)
  | 0, _, _, _ => none
  | n + 1, v1, v2, v3 => let k4 := p_X8_countIn_4 σ n; if (σ.1 0 5) ≤ v3 then p_X8_countIn_70 σ 100000 v1 v2 0 else if v1 = 3 then oi v3 48 (if (σ.1 8 v3.toNatClampNeg) = 0 then p_X8_countIn_27 σ k4 v1 v3 v2 else p_X8_countIn_55 σ k4 v1 v3 v2) else p_X8_countIn_27 σ k4 v1 v3 v2
set_option maxHeartbeats 4000000 in
set_option maxRecDepth 100000 in
theorem w_X8_countIn_4 {p : Program} {l : Launch} {e : Env} {R : Room} {s : State} {m : MethodId} {args : Array Value} {below : List Frame} {meth : Method} {c : Code} {D : va_G} {ad : Nat → Nat} {cI cJ cZ : ClassId} {res : Int32} (hm : mx p s m args meth c cX8_countIn 4 (some .int) wsX8_countIn RX8) (hR : 1 ≤ R.frames ∧ 21 ≤ R.locals) (hK : va_K D vwCl (tyw cI cJ cZ) s) (hD : ∀ σ, va_D (aM ad) (wM ad cI cJ cZ σ)) (σ : SS) : ∀ (n : Nat) (v1 : Int32) (v2 : Int32) (v3 : Int32), p_X8_countIn_4 σ n v1 v2 v3 = some res → ∀ (H : Heap) (locs : List Loc) (ls : Array Slot), va_P D vwCl (wM ad cI cJ cZ σ) H → va_S (aM ad) s.heap H locs → lv_has ls 4 [(0, .ref (ad 0)), (1, .int v1), (2, .int v2), (3, .int v3)] → W p l e R s m args below meth c H locs 0 0 (MQ below (va_Qi (fun (r : Int32) (u : SS) => r = res ∧ u = σ) (fun u t => va_P D vwCl (wM ad cI cJ cZ u) t.heap) (aM ad)) args s 0 0 (aM ad)) (F0 m 4 ls []) := by
  obtain ⟨hx, hb, hr, hml, hown, hts, hlk⟩ := id hm
  intro n
  induction n with
  | zero =>
    intro _ _ _ hf
    cases hf
  | succ n hk4 =>
    intro v1 v2 v3 hf H locs ls hP hS hl
    rw [p_X8_countIn_4] at hf
    try dsimp only at hf
    refine lv_iload_n hx hb dX8_countIn_4 rfl (lv_at hl 3 rfl) ?_
    refine lv_aload_n hx hb dX8_countIn_5 rfl (lv_at hl 0 rfl) ?_
    refine va_get (D := D) (ci := 7) (v := .int (σ.1 0 5)) (C := RX8) (T := TX8) (N := 50) hx hb hts in_X8_countIn_X8 hown hK hP 0 (wM_0 _ _ _ _ _) rfl 5 (by decide) (hts (.fieldLink RX8 131 "CallGraphsModel" "members" "I") (List.mem_of_getElem? (i := 1) rfl)) (fun _ h9 => h9) (fM_0_5 _ _) dX8_countIn_6 ?_
    refine lv_icmp_ge (tgt := 68) hx hb dX8_countIn_9 (by decide) (fun c_9 => ?_) (fun c_9 => ?_)
    · rw [if_pos c_9] at hf
      refine lv_iconst (v := 0) hx hb dX8_countIn_68 (by decide) ?_
      refine lv_istore_n (lv' := [(3, .int 0), (0, .ref (ad 0)), (1, .int v1), (2, .int v2)]) hx hb dX8_countIn_69 rfl hl (by decide) rfl (fun ls hl => ?_)
      exact w_X8_countIn_70 hm hR hK hD σ 100000 v1 v2 0 hf _ _ _ hP hS (lv_sub hl [1, 2, 3, 0] rfl)
    · rw [if_neg c_9] at hf
      refine lv_iload_n hx hb dX8_countIn_12 rfl (lv_at hl 2 rfl) ?_
      refine lv_iload_n hx hb dX8_countIn_13 rfl (lv_at hl 1 rfl) ?_
      refine lv_iconst (v := 3) hx hb dX8_countIn_14 (by decide) ?_
      refine lv_icmp_ne (tgt := 27) hx hb dX8_countIn_15 (by decide) (fun c_15 => ?_) (fun c_15 => ?_)
      · rw [if_neg c_15] at hf
        exact w_X8_countIn_27 hm hR hK hD σ (p_X8_countIn_4 σ n) hk4 v1 v3 v2 hf _ _ _ hP hS (lv_sub hl [0, 1, 3] rfl)
      · rw [if_pos c_15] at hf
        refine lv_aload_n hx hb dX8_countIn_18 rfl (lv_at hl 0 rfl) ?_
        refine va_get (D := D) (ci := 7) (v := .ref (ad 8)) (C := RX8) (T := TX8) (N := 50) hx hb hts in_X8_countIn_X8 hown hK hP 0 (wM_0 _ _ _ _ _) rfl 9 (by decide) (hts (.fieldLink RX8 31 "CallGraphsModel" "isRoot" "[Z") (List.mem_of_getElem? (i := 2) rfl)) (fun _ h9 => h9) (fM_0_9 _ _) dX8_countIn_19 ?_
        refine lv_iload_n hx hb dX8_countIn_22 rfl (lv_at hl 3 rfl) ?_
        obtain ⟨h_23, hf⟩ := oi_e hf
        refine va_zald hx hb hK hP 8 2 (wM_8 _ _ _ _ _) rfl h_23 dX8_countIn_23 ?_
        refine lv_if_ne (tgt := 55) hx hb dX8_countIn_24 (by decide) (fun c_24 => ?_) (fun c_24 => ?_)
        · rw [if_neg c_24] at hf
          exact w_X8_countIn_55 hm hR hK hD σ (p_X8_countIn_4 σ n) hk4 v1 v3 v2 hf _ _ _ hP hS (lv_sub hl [0, 1, 3] rfl)
        · rw [if_pos c_24] at hf
          exact w_X8_countIn_27 hm hR hK hD σ (p_X8_countIn_4 σ n) hk4 v1 v3 v2 hf _ _ _ hP hS (lv_sub hl [0, 1, 3] rfl)
def p_X8_countIn_0 (σ : SS) (v1 : Int32) : Option (Int32) := p_X8_countIn_4 σ 100000 v1 0 0
set_option maxHeartbeats 4000000 in
set_option maxRecDepth 100000 in
theorem w_X8_countIn_0 {p : Program} {l : Launch} {e : Env} {R : Room} {s : State} {m : MethodId} {args : Array Value} {below : List Frame} {meth : Method} {c : Code} {D : va_G} {ad : Nat → Nat} {cI cJ cZ : ClassId} {res : Int32} (hm : mx p s m args meth c cX8_countIn 4 (some .int) wsX8_countIn RX8) (hR : 1 ≤ R.frames ∧ 21 ≤ R.locals) (hK : va_K D vwCl (tyw cI cJ cZ) s) (hD : ∀ σ, va_D (aM ad) (wM ad cI cJ cZ σ)) (σ : SS) (v1 : Int32) (hf : p_X8_countIn_0 σ v1 = some res) (H : Heap) (locs : List Loc) (ls : Array Slot) (hP : va_P D vwCl (wM ad cI cJ cZ σ) H) (hS : va_S (aM ad) s.heap H locs) (hl : lv_has ls 4 [(0, .ref (ad 0)), (1, .int v1)]) : W p l e R s m args below meth c H locs 0 0 (MQ below (va_Qi (fun (r : Int32) (u : SS) => r = res ∧ u = σ) (fun u t => va_P D vwCl (wM ad cI cJ cZ u) t.heap) (aM ad)) args s 0 0 (aM ad)) (F0 m 0 ls []) := by
  obtain ⟨hx, hb, hr, hml, hown, hts, hlk⟩ := id hm
  unfold p_X8_countIn_0 at hf
  refine lv_iconst (v := 0) hx hb dX8_countIn_0 (by decide) ?_
  refine lv_istore_n (lv' := [(2, .int 0), (0, .ref (ad 0)), (1, .int v1)]) hx hb dX8_countIn_1 rfl hl (by decide) rfl (fun ls hl => ?_)
  refine lv_iconst (v := 0) hx hb dX8_countIn_2 (by decide) ?_
  refine lv_istore_n (lv' := [(3, .int 0), (2, .int 0), (0, .ref (ad 0)), (1, .int v1)]) hx hb dX8_countIn_3 rfl hl (by decide) rfl (fun ls hl => ?_)
  exact w_X8_countIn_4 hm hR hK hD σ 100000 v1 0 0 hf _ _ _ hP hS (lv_sub hl [2, 3, 1, 0] rfl)
theorem hd_X8_countIn : yX8_countIn.cls = RX8 ∧ yX8_countIn.cls ≠ "java/lang/invoke/MethodHandle" ∧ yX8_countIn.cls ≠ "java/lang/invoke/VarHandle" ∧ (parseMethodDescriptor yX8_countIn.desc).map (fun d => d.parameters.length) = some 1 := by decide +kernel
set_option maxHeartbeats 4000000 in
set_option maxRecDepth 100000 in
theorem c_X8_countIn (l : Launch) (D : va_G) (ad : Nat → Nat) (cI cJ cZ : ClassId) (σ : SS) (v1 : Int32) {res : Int32} (hf : p_X8_countIn_0 σ v1 = some res) : Met l yX8_countIn wsX8_countIn ({ frames := 1, cells := 0, slots := 0, locals := 21 } : Room) (PW D (tyw cI cJ cZ) (wM ad cI cJ cZ σ) [.ref (ad 0), .int v1]) (va_Qi (fun (r : Int32) (u : SS) => r = res ∧ u = σ) (fun u t => va_P D vwCl (wM ad cI cJ cZ u) t.heap) (aM ad)) 0 0 (aM ad) := by
  refine Met.ofW (cc := cX8_countIn) (maxL := 4) (ret := (some .int)) (by decide) rfl ?_
  intro p e s m args below meth c s₁ B hml hv
  obtain ⟨rfl, hP, hK, hD0⟩ := hv
  have hD : ∀ σ, va_D (aM ad) (wM ad cI cJ cZ σ) := fun σ => wd_D hD0 (wM_map _ _ _ _ _) (wM_map _ _ _ _ _)
  have hm : mx p s m _ meth c cX8_countIn 4 (some .int) wsX8_countIn RX8 := ⟨B.exec, B.bytes, B.returns, hml, findClass_of_methodNamed B.named, atoms_spec (ws := wsX8_countIn) B.pre, B.notSynchronized⟩
  have hl := lv_entry ([.ref (ad 0), .int v1]) (n := 4) (Nat.le_of_ble_eq_true rfl)
  rw [lg_entry_eq]
  generalize (lg_sl ([.ref (ad 0), .int v1]) ++ List.replicate (4 - (lg_sl ([.ref (ad 0), .int v1])).length) Slot.unset).toArray = ls at hl ⊢
  exact w_X8_countIn_0 hm ⟨Nat.le_refl _, Nat.le_refl _⟩ hK hD σ v1 hf _ _ _ hP va_S.rf hl
/-! CallGraphsModel.count(I)I -/
theorem in_X8_count_X8 : ∀ w ∈ u_ws RX8 TX8 50, w ∈ wsX8_count := fun w h => List.mem_cons_of_mem _ (List.mem_append_right _ h)
def p_X8_count_59 (t0 : Int32) (σ : SS) : Option (Int32 × SS) := some (t0, σ)
set_option maxHeartbeats 4000000 in
set_option maxRecDepth 100000 in
theorem w_X8_count_59 {p : Program} {l : Launch} {e : Env} {R : Room} {s : State} {m : MethodId} {args : Array Value} {below : List Frame} {meth : Method} {c : Code} {D : va_G} {ad : Nat → Nat} {cI cJ cZ : ClassId} {res : Int32 × SS} (hm : mx p s m args meth c cX8_count 2 (some .int) wsX8_count RX8) (hR : 7 ≤ R.frames ∧ 175 ≤ R.locals) (hK : va_K D vwCl (tyw cI cJ cZ) s) (hD : ∀ σ, va_D (aM ad) (wM ad cI cJ cZ σ)) (t0 : Int32) (σ : SS) (hf : p_X8_count_59 t0 σ = some res) (H : Heap) (locs : List Loc) (ls : Array Slot) (hP : va_P D vwCl (wM ad cI cJ cZ σ) H) (hS : va_S (aM ad) s.heap H locs) (hl : lv_has ls 2 []) : W p l e R s m args below meth c H locs 0 0 (MQ below (va_Qi (fun (r : Int32) (u : SS) => (r, u) = res) (fun u t => va_P D vwCl (wM ad cI cJ cZ u) t.heap) (aM ad)) args s 0 0 (aM ad)) (F0 m 59 ls [.int t0]) := by
  obtain ⟨hx, hb, hr, hml, hown, hts, hlk⟩ := id hm
  unfold p_X8_count_59 at hf
  exact rt_i (wd := wM ad cI cJ cZ) hx hb hr hlk (Option.some.inj hf) hP hS dX8_count_59
def p_X8_count_0 (v1 : Int32) (σ : SS) : Option (Int32 × SS) := oc (p_X8_freshen_0 σ) (fun r_1 => if v1 = 0 then p_X8_count_59 (r_1.1 0 0) r_1 else if v1 = 1 then p_X8_count_59 (r_1.1 0 5) r_1 else if v1 = 2 then p_X8_count_59 (r_1.1 0 12) r_1 else oc (p_X8_in_0 v1 3 9) (fun r_43 => if r_43 = 0 then p_X8_count_59 (-102) r_1 else oc (p_X8_countIn_0 r_1 v1) (fun r_51 => p_X8_count_59 r_51 r_1)))
set_option maxHeartbeats 4000000 in
set_option maxRecDepth 100000 in
theorem w_X8_count_0 {p : Program} {l : Launch} {e : Env} {R : Room} {s : State} {m : MethodId} {args : Array Value} {below : List Frame} {meth : Method} {c : Code} {D : va_G} {ad : Nat → Nat} {cI cJ cZ : ClassId} {res : Int32 × SS} (hm : mx p s m args meth c cX8_count 2 (some .int) wsX8_count RX8) (hR : 7 ≤ R.frames ∧ 175 ≤ R.locals) (hK : va_K D vwCl (tyw cI cJ cZ) s) (hD : ∀ σ, va_D (aM ad) (wM ad cI cJ cZ σ)) (v1 : Int32) (σ : SS) (hf : p_X8_count_0 v1 σ = some res) (H : Heap) (locs : List Loc) (ls : Array Slot) (hP : va_P D vwCl (wM ad cI cJ cZ σ) H) (hS : va_S (aM ad) s.heap H locs) (hl : lv_has ls 2 [(0, .ref (ad 0)), (1, .int v1)]) : W p l e R s m args below meth c H locs 0 0 (MQ below (va_Qi (fun (r : Int32) (u : SS) => (r, u) = res) (fun u t => va_P D vwCl (wM ad cI cJ cZ u) t.heap) (aM ad)) args s 0 0 (aM ad)) (F0 m 0 ls []) := by
  obtain ⟨hx, hb, hr, hml, hown, hts, hlk⟩ := id hm
  unfold p_X8_count_0 at hf
  refine lv_aload_n hx hb dX8_count_0 rfl (lv_at hl 0 rfl) ?_
  obtain ⟨r_1, hg_1, hf⟩ := oc_e hf
  refine mV_wv (wd := wM ad cI cJ cZ) (σ := σ) (As := []) (rest := []) ⟨hx, hb, hml, hown, hts⟩ hK hP hD hS (c_X8_freshen l D ad cI cJ cZ σ hg_1) (cwV 0 hts gX8_count_X8_freshen rfl rfl rfl hd_X8_freshen ⟨Nat.le_trans (Nat.le_of_ble_eq_true rfl) hR.1, Nat.le_trans (Nat.le_of_ble_eq_true rfl) hR.2⟩) rfl (wM_0 _ _ _ _ _) rfl hl.1 rfl (Nat.le_of_ble_eq_true rfl) dX8_count_1 (fun H locs hP hS => ?_)
  refine lv_iload_n hx hb dX8_count_4 rfl (lv_at hl 1 rfl) ?_
  refine lv_if_ne (tgt := 15) hx hb dX8_count_5 (by decide) (fun c_5 => ?_) (fun c_5 => ?_)
  · rw [if_neg c_5] at hf
    refine lv_iload_n hx hb dX8_count_15 rfl (lv_at hl 1 rfl) ?_
    refine lv_iconst (v := 1) hx hb dX8_count_16 (by decide) ?_
    refine lv_icmp_ne (tgt := 27) hx hb dX8_count_17 (by decide) (fun c_17 => ?_) (fun c_17 => ?_)
    · rw [if_neg c_17] at hf
      refine lv_iload_n hx hb dX8_count_27 rfl (lv_at hl 1 rfl) ?_
      refine lv_iconst (v := 2) hx hb dX8_count_28 (by decide) ?_
      refine lv_icmp_ne (tgt := 39) hx hb dX8_count_29 (by decide) (fun c_29 => ?_) (fun c_29 => ?_)
      · rw [if_neg c_29] at hf
        refine lv_iload_n hx hb dX8_count_39 rfl (lv_at hl 1 rfl) ?_
        refine lv_iconst (v := 3) hx hb dX8_count_40 (by decide) ?_
        refine lv_bipush (v := 9) hx hb dX8_count_41 (by decide) ?_
        obtain ⟨r_43, hg_43, hf⟩ := oc_e hf
        refine mS_i (D := D) (As := [.int v1, .int 3, .int 9]) (rest := []) ⟨hx, hb, hml, hown, hts⟩ hP hS (c_X8_in l v1 3 9 hg_43) (va_cwS 3 hts gX8_count_X8_in rfl rfl rfl hd_X8_in ⟨Nat.le_trans (Nat.le_of_ble_eq_true rfl) hR.1, Nat.le_trans (Nat.le_of_ble_eq_true rfl) hR.2⟩) rfl hl.1 rfl (Nat.le_of_ble_eq_true rfl) dX8_count_43 (fun H locs hP hS => ?_)
        refine lv_if_eq (tgt := 57) hx hb dX8_count_46 (by decide) (fun c_46 => ?_) (fun c_46 => ?_)
        · rw [if_pos c_46] at hf
          refine lv_bipush (v := (-102)) hx hb dX8_count_57 (by decide) ?_
          exact w_X8_count_59 hm hR hK hD (-102) r_1 hf _ _ _ hP hS (lv_sub hl [] rfl)
        · rw [if_neg c_46] at hf
          refine lv_aload_n hx hb dX8_count_49 rfl (lv_at hl 0 rfl) ?_
          refine lv_iload_n hx hb dX8_count_50 rfl (lv_at hl 1 rfl) ?_
          obtain ⟨r_51, hg_51, hf⟩ := oc_e hf
          refine mV_ri (wd := wM ad cI cJ cZ) (σ := r_1) (As := [.int v1]) (rest := []) ⟨hx, hb, hml, hown, hts⟩ hK hP hD hS (c_X8_countIn l D ad cI cJ cZ r_1 v1 hg_51) (cwV 1 hts gX8_count_X8_countIn rfl rfl rfl hd_X8_countIn ⟨Nat.le_trans (Nat.le_of_ble_eq_true rfl) hR.1, Nat.le_trans (Nat.le_of_ble_eq_true rfl) hR.2⟩) rfl (wM_0 _ _ _ _ _) rfl hl.1 rfl (Nat.le_of_ble_eq_true rfl) dX8_count_51 (fun H locs hP hS => ?_)
          refine lv_goto (tgt := 59) hx hb dX8_count_54 (by decide) ?_
          exact w_X8_count_59 hm hR hK hD r_51 r_1 hf _ _ _ hP hS (lv_sub hl [] rfl)
      · rw [if_pos c_29] at hf
        refine lv_aload_n hx hb dX8_count_32 rfl (lv_at hl 0 rfl) ?_
        refine va_get (D := D) (ci := 7) (v := .int (r_1.1 0 12)) (C := RX8) (T := TX8) (N := 50) hx hb hts in_X8_count_X8 hown hK hP 0 (wM_0 _ _ _ _ _) rfl 12 (by decide) (hts (.fieldLink RX8 163 "CallGraphsModel" "ops" "I") (List.mem_of_getElem? (i := 3) rfl)) (fun _ h9 => h9) (fM_0_12 _ _) dX8_count_33 ?_
        refine lv_goto (tgt := 59) hx hb dX8_count_36 (by decide) ?_
        exact w_X8_count_59 hm hR hK hD (r_1.1 0 12) r_1 hf _ _ _ hP hS (lv_sub hl [] rfl)
    · rw [if_pos c_17] at hf
      refine lv_aload_n hx hb dX8_count_20 rfl (lv_at hl 0 rfl) ?_
      refine va_get (D := D) (ci := 7) (v := .int (r_1.1 0 5)) (C := RX8) (T := TX8) (N := 50) hx hb hts in_X8_count_X8 hown hK hP 0 (wM_0 _ _ _ _ _) rfl 5 (by decide) (hts (.fieldLink RX8 131 "CallGraphsModel" "members" "I") (List.mem_of_getElem? (i := 2) rfl)) (fun _ h9 => h9) (fM_0_5 _ _) dX8_count_21 ?_
      refine lv_goto (tgt := 59) hx hb dX8_count_24 (by decide) ?_
      exact w_X8_count_59 hm hR hK hD (r_1.1 0 5) r_1 hf _ _ _ hP hS (lv_sub hl [] rfl)
  · rw [if_pos c_5] at hf
    refine lv_aload_n hx hb dX8_count_8 rfl (lv_at hl 0 rfl) ?_
    refine va_get (D := D) (ci := 7) (v := .int (r_1.1 0 0)) (C := RX8) (T := TX8) (N := 50) hx hb hts in_X8_count_X8 hown hK hP 0 (wM_0 _ _ _ _ _) rfl 0 (by decide) (hts (.fieldLink RX8 123 "CallGraphsModel" "types" "I") (List.mem_of_getElem? (i := 1) rfl)) (fun _ h9 => h9) (fM_0_0 _ _) dX8_count_9 ?_
    refine lv_goto (tgt := 59) hx hb dX8_count_12 (by decide) ?_
    exact w_X8_count_59 hm hR hK hD (r_1.1 0 0) r_1 hf _ _ _ hP hS (lv_sub hl [] rfl)
theorem hd_X8_count : yX8_count.cls = RX8 ∧ yX8_count.cls ≠ "java/lang/invoke/MethodHandle" ∧ yX8_count.cls ≠ "java/lang/invoke/VarHandle" ∧ (parseMethodDescriptor yX8_count.desc).map (fun d => d.parameters.length) = some 1 := by decide +kernel
set_option maxHeartbeats 4000000 in
set_option maxRecDepth 100000 in
theorem c_X8_count (l : Launch) (D : va_G) (ad : Nat → Nat) (cI cJ cZ : ClassId) (σ : SS) (v1 : Int32) {res : Int32 × SS} (hf : p_X8_count_0 v1 σ = some res) : Met l yX8_count wsX8_count ({ frames := 7, cells := 0, slots := 0, locals := 175 } : Room) (PW D (tyw cI cJ cZ) (wM ad cI cJ cZ σ) [.ref (ad 0), .int v1]) (va_Qi (fun (r : Int32) (u : SS) => (r, u) = res) (fun u t => va_P D vwCl (wM ad cI cJ cZ u) t.heap) (aM ad)) 0 0 (aM ad) := by
  refine Met.ofW (cc := cX8_count) (maxL := 2) (ret := (some .int)) (by decide) rfl ?_
  intro p e s m args below meth c s₁ B hml hv
  obtain ⟨rfl, hP, hK, hD0⟩ := hv
  have hD : ∀ σ, va_D (aM ad) (wM ad cI cJ cZ σ) := fun σ => wd_D hD0 (wM_map _ _ _ _ _) (wM_map _ _ _ _ _)
  have hm : mx p s m _ meth c cX8_count 2 (some .int) wsX8_count RX8 := ⟨B.exec, B.bytes, B.returns, hml, findClass_of_methodNamed B.named, atoms_spec (ws := wsX8_count) B.pre, B.notSynchronized⟩
  have hl := lv_entry ([.ref (ad 0), .int v1]) (n := 2) (Nat.le_of_ble_eq_true rfl)
  rw [lg_entry_eq]
  generalize (lg_sl ([.ref (ad 0), .int v1]) ++ List.replicate (2 - (lg_sl ([.ref (ad 0), .int v1])).length) Slot.unset).toArray = ls at hl ⊢
  exact w_X8_count_0 hm ⟨Nat.le_refl _, Nat.le_refl _⟩ hK hD v1 σ hf _ _ _ hP va_S.rf hl
/-! CallGraphsModel.callersOf(II)I -/

def p_X8_callersOf_27 (σ : SS) (k5 : Int32 → Int32 → Int32 → Int32 → Option (Int32)) (v1 : Int32) (v2 : Int32) (v4 : Int32) (t0 : Int32) (t1 : Int32) : Option (Int32) := k5 v1 v2 (t1 + t0) (v4 + 1)
set_option maxHeartbeats 4000000 in
set_option maxRecDepth 100000 in
theorem w_X8_callersOf_27 {p : Program} {l : Launch} {e : Env} {R : Room} {s : State} {m : MethodId} {args : Array Value} {below : List Frame} {meth : Method} {c : Code} {D : va_G} {ad : Nat → Nat} {cI cJ cZ : ClassId} {res : Int32} (hm : mx p s m args meth c cX8_callersOf 5 (some .int) wsX8_callersOf RX8) (hR : 1 ≤ R.frames ∧ 22 ≤ R.locals) (hK : va_K D vwCl (tyw cI cJ cZ) s) (hD : ∀ σ, va_D (aM ad) (wM ad cI cJ cZ σ)) (σ : SS) (k5 : Int32 → Int32 → Int32 → Int32 → Option (Int32)) (hk5 : ∀ (v1 : Int32) (v2 : Int32) (v3 : Int32) (v4 : Int32), k5 v1 v2 v3 v4 = some res → ∀ (H : Heap) (locs : List Loc) (ls : Array Slot), va_P D vwCl (wM ad cI cJ cZ σ) H → va_S (aM ad) s.heap H locs → lv_has ls 5 [(0, .ref (ad 0)), (1, .int v1), (2, .int v2), (3, .int v3), (4, .int v4)] → W p l e R s m args below meth c H locs 0 0 (MQ below (va_Qi (fun (r : Int32) (u : SS) => r = res ∧ u = σ) (fun u t => va_P D vwCl (wM ad cI cJ cZ u) t.heap) (aM ad)) args s 0 0 (aM ad)) (F0 m 5 ls [])) (v1 : Int32) (v2 : Int32) (v4 : Int32) (t0 : Int32) (t1 : Int32) (hf : p_X8_callersOf_27 σ k5 v1 v2 v4 t0 t1 = some res) (H : Heap) (locs : List Loc) (ls : Array Slot) (hP : va_P D vwCl (wM ad cI cJ cZ σ) H) (hS : va_S (aM ad) s.heap H locs) (hl : lv_has ls 5 [(0, .ref (ad 0)), (1, .int v1), (2, .int v2), (4, .int v4)]) : W p l e R s m args below meth c H locs 0 0 (MQ below (va_Qi (fun (r : Int32) (u : SS) => r = res ∧ u = σ) (fun u t => va_P D vwCl (wM ad cI cJ cZ u) t.heap) (aM ad)) args s 0 0 (aM ad)) (F0 m 27 ls [.int t0, .int t1]) := by
  obtain ⟨hx, hb, hr, hml, hown, hts, hlk⟩ := id hm
  unfold p_X8_callersOf_27 at hf
  refine lv_iadd hx hb dX8_callersOf_27 ?_
  refine lv_istore_n (lv' := [(3, .int (t1 + t0)), (0, .ref (ad 0)), (1, .int v1), (2, .int v2), (4, .int v4)]) hx hb dX8_callersOf_28 rfl hl (by decide) rfl (fun ls hl => ?_)
  refine lv_iinc (v := (v4 + 1)) (lv' := [(4, .int (v4 + 1)), (3, .int (t1 + t0)), (0, .ref (ad 0)), (1, .int v1), (2, .int v2)]) hx hb dX8_callersOf_29 hl (k := 4) rfl rfl (by decide) rfl (fun ls hl => ?_)
  refine lv_goto (tgt := 5) hx hb dX8_callersOf_32 (by decide) ?_
  exact hk5 v1 v2 (t1 + t0) (v4 + 1) hf _ _ _ hP hS (lv_sub hl [2, 3, 4, 1, 0] rfl)
def p_X8_callersOf_5 (σ : SS) : Nat → Int32 → Int32 → Int32 → Int32 → Option (Int32)
  | 0, _, _, _, _ => none
  | n + 1, v1, v2, v3, v4 => let k5 := p_X8_callersOf_5 σ n; if v2 ≤ v4 then some v3 else oc (p_X8_isCallee_0 σ v4 v1) (fun r_16 => if r_16 = 0 then p_X8_callersOf_27 σ k5 v1 v2 v4 0 v3 else p_X8_callersOf_27 σ k5 v1 v2 v4 1 v3)
set_option maxHeartbeats 4000000 in
set_option maxRecDepth 100000 in
theorem w_X8_callersOf_5 {p : Program} {l : Launch} {e : Env} {R : Room} {s : State} {m : MethodId} {args : Array Value} {below : List Frame} {meth : Method} {c : Code} {D : va_G} {ad : Nat → Nat} {cI cJ cZ : ClassId} {res : Int32} (hm : mx p s m args meth c cX8_callersOf 5 (some .int) wsX8_callersOf RX8) (hR : 1 ≤ R.frames ∧ 22 ≤ R.locals) (hK : va_K D vwCl (tyw cI cJ cZ) s) (hD : ∀ σ, va_D (aM ad) (wM ad cI cJ cZ σ)) (σ : SS) : ∀ (n : Nat) (v1 : Int32) (v2 : Int32) (v3 : Int32) (v4 : Int32), p_X8_callersOf_5 σ n v1 v2 v3 v4 = some res → ∀ (H : Heap) (locs : List Loc) (ls : Array Slot), va_P D vwCl (wM ad cI cJ cZ σ) H → va_S (aM ad) s.heap H locs → lv_has ls 5 [(0, .ref (ad 0)), (1, .int v1), (2, .int v2), (3, .int v3), (4, .int v4)] → W p l e R s m args below meth c H locs 0 0 (MQ below (va_Qi (fun (r : Int32) (u : SS) => r = res ∧ u = σ) (fun u t => va_P D vwCl (wM ad cI cJ cZ u) t.heap) (aM ad)) args s 0 0 (aM ad)) (F0 m 5 ls []) := by
  obtain ⟨hx, hb, hr, hml, hown, hts, hlk⟩ := id hm
  intro n
  induction n with
  | zero =>
    intro _ _ _ _ hf
    cases hf
  | succ n hk5 =>
    intro v1 v2 v3 v4 hf H locs ls hP hS hl
    rw [p_X8_callersOf_5] at hf
    try dsimp only at hf
    refine lv_iload hx hb dX8_callersOf_5 (lv_at hl 4 rfl) ?_
    refine lv_iload_n hx hb dX8_callersOf_7 rfl (lv_at hl 2 rfl) ?_
    refine lv_icmp_ge (tgt := 35) hx hb dX8_callersOf_8 (by decide) (fun c_8 => ?_) (fun c_8 => ?_)
    · rw [if_pos c_8] at hf
      refine lv_iload_n hx hb dX8_callersOf_35 rfl (lv_at hl 3 rfl) ?_
      exact rt_i (wd := wM ad cI cJ cZ) hx hb hr hlk ⟨Option.some.inj hf, rfl⟩ hP hS dX8_callersOf_36
    · rw [if_neg c_8] at hf
      refine lv_iload_n hx hb dX8_callersOf_11 rfl (lv_at hl 3 rfl) ?_
      refine lv_aload_n hx hb dX8_callersOf_12 rfl (lv_at hl 0 rfl) ?_
      refine lv_iload hx hb dX8_callersOf_13 (lv_at hl 4 rfl) ?_
      refine lv_iload_n hx hb dX8_callersOf_15 rfl (lv_at hl 1 rfl) ?_
      obtain ⟨r_16, hg_16, hf⟩ := oc_e hf
      refine mV_ri (wd := wM ad cI cJ cZ) (σ := σ) (As := [.int v4, .int v1]) (rest := [.int v3]) ⟨hx, hb, hml, hown, hts⟩ hK hP hD hS (c_X8_isCallee l D ad cI cJ cZ σ v4 v1 hg_16) (cwV 2 hts gX8_callersOf_X8_isCallee rfl rfl rfl hd_X8_isCallee ⟨Nat.le_trans (Nat.le_of_ble_eq_true rfl) hR.1, Nat.le_trans (Nat.le_of_ble_eq_true rfl) hR.2⟩) rfl (wM_0 _ _ _ _ _) rfl hl.1 rfl (Nat.le_of_ble_eq_true rfl) dX8_callersOf_16 (fun H locs hP hS => ?_)
      refine lv_if_eq (tgt := 26) hx hb dX8_callersOf_19 (by decide) (fun c_19 => ?_) (fun c_19 => ?_)
      · rw [if_pos c_19] at hf
        refine lv_iconst (v := 0) hx hb dX8_callersOf_26 (by decide) ?_
        exact w_X8_callersOf_27 hm hR hK hD σ (p_X8_callersOf_5 σ n) hk5 v1 v2 v4 0 v3 hf _ _ _ hP hS (lv_sub hl [0, 1, 2, 4] rfl)
      · rw [if_neg c_19] at hf
        refine lv_iconst (v := 1) hx hb dX8_callersOf_22 (by decide) ?_
        refine lv_goto (tgt := 27) hx hb dX8_callersOf_23 (by decide) ?_
        exact w_X8_callersOf_27 hm hR hK hD σ (p_X8_callersOf_5 σ n) hk5 v1 v2 v4 1 v3 hf _ _ _ hP hS (lv_sub hl [0, 1, 2, 4] rfl)
def p_X8_callersOf_0 (σ : SS) (v1 : Int32) (v2 : Int32) : Option (Int32) := p_X8_callersOf_5 σ 100000 v1 v2 0 0
set_option maxHeartbeats 4000000 in
set_option maxRecDepth 100000 in
theorem w_X8_callersOf_0 {p : Program} {l : Launch} {e : Env} {R : Room} {s : State} {m : MethodId} {args : Array Value} {below : List Frame} {meth : Method} {c : Code} {D : va_G} {ad : Nat → Nat} {cI cJ cZ : ClassId} {res : Int32} (hm : mx p s m args meth c cX8_callersOf 5 (some .int) wsX8_callersOf RX8) (hR : 1 ≤ R.frames ∧ 22 ≤ R.locals) (hK : va_K D vwCl (tyw cI cJ cZ) s) (hD : ∀ σ, va_D (aM ad) (wM ad cI cJ cZ σ)) (σ : SS) (v1 : Int32) (v2 : Int32) (hf : p_X8_callersOf_0 σ v1 v2 = some res) (H : Heap) (locs : List Loc) (ls : Array Slot) (hP : va_P D vwCl (wM ad cI cJ cZ σ) H) (hS : va_S (aM ad) s.heap H locs) (hl : lv_has ls 5 [(0, .ref (ad 0)), (1, .int v1), (2, .int v2)]) : W p l e R s m args below meth c H locs 0 0 (MQ below (va_Qi (fun (r : Int32) (u : SS) => r = res ∧ u = σ) (fun u t => va_P D vwCl (wM ad cI cJ cZ u) t.heap) (aM ad)) args s 0 0 (aM ad)) (F0 m 0 ls []) := by
  obtain ⟨hx, hb, hr, hml, hown, hts, hlk⟩ := id hm
  unfold p_X8_callersOf_0 at hf
  refine lv_iconst (v := 0) hx hb dX8_callersOf_0 (by decide) ?_
  refine lv_istore_n (lv' := [(3, .int 0), (0, .ref (ad 0)), (1, .int v1), (2, .int v2)]) hx hb dX8_callersOf_1 rfl hl (by decide) rfl (fun ls hl => ?_)
  refine lv_iconst (v := 0) hx hb dX8_callersOf_2 (by decide) ?_
  refine lv_istore (lv' := [(4, .int 0), (3, .int 0), (0, .ref (ad 0)), (1, .int v1), (2, .int v2)]) hx hb dX8_callersOf_3 hl (by decide) rfl (fun ls hl => ?_)
  exact w_X8_callersOf_5 hm hR hK hD σ 100000 v1 v2 0 0 hf _ _ _ hP hS (lv_sub hl [2, 3, 4, 1, 0] rfl)
theorem hd_X8_callersOf : yX8_callersOf.cls = RX8 ∧ yX8_callersOf.cls ≠ "java/lang/invoke/MethodHandle" ∧ yX8_callersOf.cls ≠ "java/lang/invoke/VarHandle" ∧ (parseMethodDescriptor yX8_callersOf.desc).map (fun d => d.parameters.length) = some 2 := by decide +kernel
set_option maxHeartbeats 4000000 in
set_option maxRecDepth 100000 in
theorem c_X8_callersOf (l : Launch) (D : va_G) (ad : Nat → Nat) (cI cJ cZ : ClassId) (σ : SS) (v1 : Int32) (v2 : Int32) {res : Int32} (hf : p_X8_callersOf_0 σ v1 v2 = some res) : Met l yX8_callersOf wsX8_callersOf ({ frames := 1, cells := 0, slots := 0, locals := 22 } : Room) (PW D (tyw cI cJ cZ) (wM ad cI cJ cZ σ) [.ref (ad 0), .int v1, .int v2]) (va_Qi (fun (r : Int32) (u : SS) => r = res ∧ u = σ) (fun u t => va_P D vwCl (wM ad cI cJ cZ u) t.heap) (aM ad)) 0 0 (aM ad) := by
  refine Met.ofW (cc := cX8_callersOf) (maxL := 5) (ret := (some .int)) (by decide) rfl ?_
  intro p e s m args below meth c s₁ B hml hv
  obtain ⟨rfl, hP, hK, hD0⟩ := hv
  have hD : ∀ σ, va_D (aM ad) (wM ad cI cJ cZ σ) := fun σ => wd_D hD0 (wM_map _ _ _ _ _) (wM_map _ _ _ _ _)
  have hm : mx p s m _ meth c cX8_callersOf 5 (some .int) wsX8_callersOf RX8 := ⟨B.exec, B.bytes, B.returns, hml, findClass_of_methodNamed B.named, atoms_spec (ws := wsX8_callersOf) B.pre, B.notSynchronized⟩
  have hl := lv_entry ([.ref (ad 0), .int v1, .int v2]) (n := 5) (Nat.le_of_ble_eq_true rfl)
  rw [lg_entry_eq]
  generalize (lg_sl ([.ref (ad 0), .int v1, .int v2]) ++ List.replicate (5 - (lg_sl ([.ref (ad 0), .int v1, .int v2])).length) Slot.unset).toArray = ls at hl ⊢
  exact w_X8_callersOf_0 hm ⟨Nat.le_refl _, Nat.le_refl _⟩ hK hD σ v1 v2 hf _ _ _ hP va_S.rf hl
/-! CallGraphsModel.about(II)I -/
theorem in_X8_about_X8 : ∀ w ∈ u_ws RX8 TX8 50, w ∈ wsX8_about := fun w h => List.mem_cons_of_mem _ (List.mem_append_right _ h)
def p_X8_about_68 (k28 : Int32 → Int32 → Int32 → Int32 → Int32 → SS → Option (Int32 × SS)) (v1 : Int32) (v2 : Int32) (v3 : Int32) (v5 : Int32) (t0 : Int32) (σ : SS) : Option (Int32 × SS) := k28 v1 v2 v3 t0 (v5 + (-1)) σ
set_option maxHeartbeats 4000000 in
set_option maxRecDepth 100000 in
theorem w_X8_about_68 {p : Program} {l : Launch} {e : Env} {R : Room} {s : State} {m : MethodId} {args : Array Value} {below : List Frame} {meth : Method} {c : Code} {D : va_G} {ad : Nat → Nat} {cI cJ cZ : ClassId} {res : Int32 × SS} (hm : mx p s m args meth c cX8_about 6 (some .int) wsX8_about RX8) (hR : 7 ≤ R.frames ∧ 175 ≤ R.locals) (hK : va_K D vwCl (tyw cI cJ cZ) s) (hD : ∀ σ, va_D (aM ad) (wM ad cI cJ cZ σ)) (k28 : Int32 → Int32 → Int32 → Int32 → Int32 → SS → Option (Int32 × SS)) (hk28 : ∀ (v1 : Int32) (v2 : Int32) (v3 : Int32) (v4 : Int32) (v5 : Int32) (σ : SS), k28 v1 v2 v3 v4 v5 σ = some res → ∀ (H : Heap) (locs : List Loc) (ls : Array Slot), va_P D vwCl (wM ad cI cJ cZ σ) H → va_S (aM ad) s.heap H locs → lv_has ls 6 [(0, .ref (ad 0)), (1, .int v1), (2, .int v2), (3, .int v3), (4, .int v4), (5, .int v5)] → W p l e R s m args below meth c H locs 0 0 (MQ below (va_Qi (fun (r : Int32) (u : SS) => (r, u) = res) (fun u t => va_P D vwCl (wM ad cI cJ cZ u) t.heap) (aM ad)) args s 0 0 (aM ad)) (F0 m 28 ls [])) (v1 : Int32) (v2 : Int32) (v3 : Int32) (v5 : Int32) (t0 : Int32) (σ : SS) (hf : p_X8_about_68 k28 v1 v2 v3 v5 t0 σ = some res) (H : Heap) (locs : List Loc) (ls : Array Slot) (hP : va_P D vwCl (wM ad cI cJ cZ σ) H) (hS : va_S (aM ad) s.heap H locs) (hl : lv_has ls 6 [(0, .ref (ad 0)), (1, .int v1), (2, .int v2), (3, .int v3), (5, .int v5)]) : W p l e R s m args below meth c H locs 0 0 (MQ below (va_Qi (fun (r : Int32) (u : SS) => (r, u) = res) (fun u t => va_P D vwCl (wM ad cI cJ cZ u) t.heap) (aM ad)) args s 0 0 (aM ad)) (F0 m 68 ls [.int t0]) := by
  obtain ⟨hx, hb, hr, hml, hown, hts, hlk⟩ := id hm
  unfold p_X8_about_68 at hf
  refine lv_istore (lv' := [(4, .int t0), (0, .ref (ad 0)), (1, .int v1), (2, .int v2), (3, .int v3), (5, .int v5)]) hx hb dX8_about_68 hl (by decide) rfl (fun ls hl => ?_)
  refine lv_iinc (v := (v5 + (-1))) (lv' := [(5, .int (v5 + (-1))), (4, .int t0), (0, .ref (ad 0)), (1, .int v1), (2, .int v2), (3, .int v3)]) hx hb dX8_about_70 hl (k := 5) rfl rfl (by decide) rfl (fun ls hl => ?_)
  refine lv_goto (tgt := 28) hx hb dX8_about_73 (by decide) ?_
  exact hk28 v1 v2 v3 t0 (v5 + (-1)) σ hf _ _ _ hP hS (lv_sub hl [2, 3, 4, 5, 1, 0] rfl)
def p_X8_about_49 (k28 : Int32 → Int32 → Int32 → Int32 → Int32 → SS → Option (Int32 × SS)) (v1 : Int32) (v2 : Int32) (v4 : Int32) (v5 : Int32) (t0 : Int32) (t1 : Int32) (σ : SS) : Option (Int32 × SS) := oc (p_X8_isRing_0 σ v1 v5) (fun r_55 => if r_55 = 0 then p_X8_about_68 k28 v1 v2 (t1 + t0) v5 v4 σ else p_X8_about_68 k28 v1 v2 (t1 + t0) v5 v5 σ)
set_option maxHeartbeats 4000000 in
set_option maxRecDepth 100000 in
theorem w_X8_about_49 {p : Program} {l : Launch} {e : Env} {R : Room} {s : State} {m : MethodId} {args : Array Value} {below : List Frame} {meth : Method} {c : Code} {D : va_G} {ad : Nat → Nat} {cI cJ cZ : ClassId} {res : Int32 × SS} (hm : mx p s m args meth c cX8_about 6 (some .int) wsX8_about RX8) (hR : 7 ≤ R.frames ∧ 175 ≤ R.locals) (hK : va_K D vwCl (tyw cI cJ cZ) s) (hD : ∀ σ, va_D (aM ad) (wM ad cI cJ cZ σ)) (k28 : Int32 → Int32 → Int32 → Int32 → Int32 → SS → Option (Int32 × SS)) (hk28 : ∀ (v1 : Int32) (v2 : Int32) (v3 : Int32) (v4 : Int32) (v5 : Int32) (σ : SS), k28 v1 v2 v3 v4 v5 σ = some res → ∀ (H : Heap) (locs : List Loc) (ls : Array Slot), va_P D vwCl (wM ad cI cJ cZ σ) H → va_S (aM ad) s.heap H locs → lv_has ls 6 [(0, .ref (ad 0)), (1, .int v1), (2, .int v2), (3, .int v3), (4, .int v4), (5, .int v5)] → W p l e R s m args below meth c H locs 0 0 (MQ below (va_Qi (fun (r : Int32) (u : SS) => (r, u) = res) (fun u t => va_P D vwCl (wM ad cI cJ cZ u) t.heap) (aM ad)) args s 0 0 (aM ad)) (F0 m 28 ls [])) (v1 : Int32) (v2 : Int32) (v4 : Int32) (v5 : Int32) (t0 : Int32) (t1 : Int32) (σ : SS) (hf : p_X8_about_49 k28 v1 v2 v4 v5 t0 t1 σ = some res) (H : Heap) (locs : List Loc) (ls : Array Slot) (hP : va_P D vwCl (wM ad cI cJ cZ σ) H) (hS : va_S (aM ad) s.heap H locs) (hl : lv_has ls 6 [(0, .ref (ad 0)), (1, .int v1), (2, .int v2), (4, .int v4), (5, .int v5)]) : W p l e R s m args below meth c H locs 0 0 (MQ below (va_Qi (fun (r : Int32) (u : SS) => (r, u) = res) (fun u t => va_P D vwCl (wM ad cI cJ cZ u) t.heap) (aM ad)) args s 0 0 (aM ad)) (F0 m 49 ls [.int t0, .int t1]) := by
  obtain ⟨hx, hb, hr, hml, hown, hts, hlk⟩ := id hm
  unfold p_X8_about_49 at hf
  refine lv_iadd hx hb dX8_about_49 ?_
  refine lv_istore_n (lv' := [(3, .int (t1 + t0)), (0, .ref (ad 0)), (1, .int v1), (2, .int v2), (4, .int v4), (5, .int v5)]) hx hb dX8_about_50 rfl hl (by decide) rfl (fun ls hl => ?_)
  refine lv_aload_n hx hb dX8_about_51 rfl (lv_at hl 1 rfl) ?_
  refine lv_iload_n hx hb dX8_about_52 rfl (lv_at hl 2 rfl) ?_
  refine lv_iload hx hb dX8_about_53 (lv_at hl 5 rfl) ?_
  obtain ⟨r_55, hg_55, hf⟩ := oc_e hf
  refine mV_ri (wd := wM ad cI cJ cZ) (σ := σ) (As := [.int v1, .int v5]) (rest := []) ⟨hx, hb, hml, hown, hts⟩ hK hP hD hS (c_X8_isRing l D ad cI cJ cZ σ v1 v5 hg_55) (cwV 2 hts gX8_about_X8_isRing rfl rfl rfl hd_X8_isRing ⟨Nat.le_trans (Nat.le_of_ble_eq_true rfl) hR.1, Nat.le_trans (Nat.le_of_ble_eq_true rfl) hR.2⟩) rfl (wM_0 _ _ _ _ _) rfl hl.1 rfl (Nat.le_of_ble_eq_true rfl) dX8_about_55 (fun H locs hP hS => ?_)
  refine lv_if_eq (tgt := 66) hx hb dX8_about_58 (by decide) (fun c_58 => ?_) (fun c_58 => ?_)
  · rw [if_pos c_58] at hf
    refine lv_iload hx hb dX8_about_66 (lv_at hl 4 rfl) ?_
    exact w_X8_about_68 hm hR hK hD k28 hk28 v1 v2 (t1 + t0) v5 v4 σ hf _ _ _ hP hS (lv_sub hl [1, 2, 3, 0, 5] rfl)
  · rw [if_neg c_58] at hf
    refine lv_iload hx hb dX8_about_61 (lv_at hl 5 rfl) ?_
    refine lv_goto (tgt := 68) hx hb dX8_about_63 (by decide) ?_
    exact w_X8_about_68 hm hR hK hD k28 hk28 v1 v2 (t1 + t0) v5 v5 σ hf _ _ _ hP hS (lv_sub hl [1, 2, 3, 0, 5] rfl)
def p_X8_about_126 (t0 : Int32) (σ : SS) : Option (Int32 × SS) := some (t0, σ)
set_option maxHeartbeats 4000000 in
set_option maxRecDepth 100000 in
theorem w_X8_about_126 {p : Program} {l : Launch} {e : Env} {R : Room} {s : State} {m : MethodId} {args : Array Value} {below : List Frame} {meth : Method} {c : Code} {D : va_G} {ad : Nat → Nat} {cI cJ cZ : ClassId} {res : Int32 × SS} (hm : mx p s m args meth c cX8_about 6 (some .int) wsX8_about RX8) (hR : 7 ≤ R.frames ∧ 175 ≤ R.locals) (hK : va_K D vwCl (tyw cI cJ cZ) s) (hD : ∀ σ, va_D (aM ad) (wM ad cI cJ cZ σ)) (t0 : Int32) (σ : SS) (hf : p_X8_about_126 t0 σ = some res) (H : Heap) (locs : List Loc) (ls : Array Slot) (hP : va_P D vwCl (wM ad cI cJ cZ σ) H) (hS : va_S (aM ad) s.heap H locs) (hl : lv_has ls 6 []) : W p l e R s m args below meth c H locs 0 0 (MQ below (va_Qi (fun (r : Int32) (u : SS) => (r, u) = res) (fun u t => va_P D vwCl (wM ad cI cJ cZ u) t.heap) (aM ad)) args s 0 0 (aM ad)) (F0 m 126 ls [.int t0]) := by
  obtain ⟨hx, hb, hr, hml, hown, hts, hlk⟩ := id hm
  unfold p_X8_about_126 at hf
  exact rt_i (wd := wM ad cI cJ cZ) hx hb hr hlk (Option.some.inj hf) hP hS dX8_about_126
def p_X8_about_140 (t0 : Int32) (σ : SS) : Option (Int32 × SS) := some (t0, σ)
set_option maxHeartbeats 4000000 in
set_option maxRecDepth 100000 in
theorem w_X8_about_140 {p : Program} {l : Launch} {e : Env} {R : Room} {s : State} {m : MethodId} {args : Array Value} {below : List Frame} {meth : Method} {c : Code} {D : va_G} {ad : Nat → Nat} {cI cJ cZ : ClassId} {res : Int32 × SS} (hm : mx p s m args meth c cX8_about 6 (some .int) wsX8_about RX8) (hR : 7 ≤ R.frames ∧ 175 ≤ R.locals) (hK : va_K D vwCl (tyw cI cJ cZ) s) (hD : ∀ σ, va_D (aM ad) (wM ad cI cJ cZ σ)) (t0 : Int32) (σ : SS) (hf : p_X8_about_140 t0 σ = some res) (H : Heap) (locs : List Loc) (ls : Array Slot) (hP : va_P D vwCl (wM ad cI cJ cZ σ) H) (hS : va_S (aM ad) s.heap H locs) (hl : lv_has ls 6 []) : W p l e R s m args below meth c H locs 0 0 (MQ below (va_Qi (fun (r : Int32) (u : SS) => (r, u) = res) (fun u t => va_P D vwCl (wM ad cI cJ cZ u) t.heap) (aM ad)) args s 0 0 (aM ad)) (F0 m 140 ls [.int t0]) := by
  obtain ⟨hx, hb, hr, hml, hown, hts, hlk⟩ := id hm
  unfold p_X8_about_140 at hf
  exact rt_i (wd := wM ad cI cJ cZ) hx hb hr hlk (Option.some.inj hf) hP hS dX8_about_140
def p_X8_about_28 : Nat → Int32 → Int32 → Int32 → Int32 → Int32 → SS → Option (Int32 × SS)
  | 0, _, _, _, _, _, _ => none
  | n + 1, v1, v2, v3, v4, v5, σ => let k28 := p_X8_about_28 n; if v5 < 0 then (if v2 = 0 then oi v1 48 (if (σ.1 14 v1.toNatClampNeg) = 0 then p_X8_about_126 0 σ else p_X8_about_126 1 σ) else if v2 = 1 then oc (p_X8_isRecursive_0 σ v1) (fun r_129 => if r_129 = 0 then p_X8_about_140 0 σ else p_X8_about_140 1 σ) else if v2 = 2 then oc (p_X8_callersOf_0 σ v1 (σ.1 0 5)) (fun r_147 => some (r_147, σ)) else if v2 = 3 then some (v3, σ) else if v2 = 4 then some (v4, σ) else some ((-102), σ)) else oc (p_X8_isRing_0 σ v1 v5) (fun r_38 => if r_38 = 0 then p_X8_about_49 k28 v1 v2 v4 v5 0 v3 σ else p_X8_about_49 k28 v1 v2 v4 v5 1 v3 σ)
set_option maxHeartbeats 4000000 in
set_option maxRecDepth 100000 in
theorem w_X8_about_28 {p : Program} {l : Launch} {e : Env} {R : Room} {s : State} {m : MethodId} {args : Array Value} {below : List Frame} {meth : Method} {c : Code} {D : va_G} {ad : Nat → Nat} {cI cJ cZ : ClassId} {res : Int32 × SS} (hm : mx p s m args meth c cX8_about 6 (some .int) wsX8_about RX8) (hR : 7 ≤ R.frames ∧ 175 ≤ R.locals) (hK : va_K D vwCl (tyw cI cJ cZ) s) (hD : ∀ σ, va_D (aM ad) (wM ad cI cJ cZ σ)) : ∀ (n : Nat) (v1 : Int32) (v2 : Int32) (v3 : Int32) (v4 : Int32) (v5 : Int32) (σ : SS), p_X8_about_28 n v1 v2 v3 v4 v5 σ = some res → ∀ (H : Heap) (locs : List Loc) (ls : Array Slot), va_P D vwCl (wM ad cI cJ cZ σ) H → va_S (aM ad) s.heap H locs → lv_has ls 6 [(0, .ref (ad 0)), (1, .int v1), (2, .int v2), (3, .int v3), (4, .int v4), (5, .int v5)] → W p l e R s m args below meth c H locs 0 0 (MQ below (va_Qi (fun (r : Int32) (u : SS) => (r, u) = res) (fun u t => va_P D vwCl (wM ad cI cJ cZ u) t.heap) (aM ad)) args s 0 0 (aM ad)) (F0 m 28 ls []) := by
  obtain ⟨hx, hb, hr, hml, hown, hts, hlk⟩ := id hm
  intro n
  induction n with
  | zero =>
    intro _ _ _ _ _ _ hf
    cases hf
  | succ n hk28 =>
    intro v1 v2 v3 v4 v5 σ hf H locs ls hP hS hl
    rw [p_X8_about_28] at hf
    try dsimp only at hf
    refine lv_iload hx hb dX8_about_28 (lv_at hl 5 rfl) ?_
    refine lv_if_lt (tgt := 76) hx hb dX8_about_30 (by decide) (fun c_30 => ?_) (fun c_30 => ?_)
    · rw [if_pos c_30] at hf
      refine lv_iload_n hx hb dX8_about_76 rfl (lv_at hl 2 rfl) ?_
      by_cases c_77_0 : v2 = 0
      · rw [if_pos c_77_0] at hf
        refine lv_tableIn (off := 35) (tgt := 112) hx hb dX8_about_77 (by rw [c_77_0]; decide) (by rw [c_77_0]; decide) (by rw [c_77_0]; rfl) (by decide) ?_
        refine lv_aload_n hx hb dX8_about_112 rfl (lv_at hl 0 rfl) ?_
        refine va_get (D := D) (ci := 7) (v := .ref (ad 14)) (C := RX8) (T := TX8) (N := 50) hx hb hts in_X8_about_X8 hown hK hP 0 (wM_0 _ _ _ _ _) rfl 18 (by decide) (hts (.fieldLink RX8 50 "CallGraphsModel" "reached" "[Z") (List.mem_of_getElem? (i := 2) rfl)) (fun _ h9 => h9) (fM_0_18 _ _) dX8_about_113 ?_
        refine lv_iload_n hx hb dX8_about_116 rfl (lv_at hl 1 rfl) ?_
        obtain ⟨h_117, hf⟩ := oi_e hf
        refine va_zald hx hb hK hP 14 2 (wM_14 _ _ _ _ _) rfl h_117 dX8_about_117 ?_
        refine lv_if_eq (tgt := 125) hx hb dX8_about_118 (by decide) (fun c_118 => ?_) (fun c_118 => ?_)
        · rw [if_pos c_118] at hf
          refine lv_iconst (v := 0) hx hb dX8_about_125 (by decide) ?_
          exact w_X8_about_126 hm hR hK hD 0 σ hf _ _ _ hP hS (lv_sub hl [] rfl)
        · rw [if_neg c_118] at hf
          refine lv_iconst (v := 1) hx hb dX8_about_121 (by decide) ?_
          refine lv_goto (tgt := 126) hx hb dX8_about_122 (by decide) ?_
          exact w_X8_about_126 hm hR hK hD 1 σ hf _ _ _ hP hS (lv_sub hl [] rfl)
      rw [if_neg c_77_0] at hf
      by_cases c_77_1 : v2 = 1
      · rw [if_pos c_77_1] at hf
        refine lv_tableIn (off := 50) (tgt := 127) hx hb dX8_about_77 (by rw [c_77_1]; decide) (by rw [c_77_1]; decide) (by rw [c_77_1]; rfl) (by decide) ?_
        refine lv_aload_n hx hb dX8_about_127 rfl (lv_at hl 0 rfl) ?_
        refine lv_iload_n hx hb dX8_about_128 rfl (lv_at hl 1 rfl) ?_
        obtain ⟨r_129, hg_129, hf⟩ := oc_e hf
        refine mV_ri (wd := wM ad cI cJ cZ) (σ := σ) (As := [.int v1]) (rest := []) ⟨hx, hb, hml, hown, hts⟩ hK hP hD hS (c_X8_isRecursive l D ad cI cJ cZ σ v1 hg_129) (cwV 1 hts gX8_about_X8_isRecursive rfl rfl rfl hd_X8_isRecursive ⟨Nat.le_trans (Nat.le_of_ble_eq_true rfl) hR.1, Nat.le_trans (Nat.le_of_ble_eq_true rfl) hR.2⟩) rfl (wM_0 _ _ _ _ _) rfl hl.1 rfl (Nat.le_of_ble_eq_true rfl) dX8_about_129 (fun H locs hP hS => ?_)
        refine lv_if_eq (tgt := 139) hx hb dX8_about_132 (by decide) (fun c_132 => ?_) (fun c_132 => ?_)
        · rw [if_pos c_132] at hf
          refine lv_iconst (v := 0) hx hb dX8_about_139 (by decide) ?_
          exact w_X8_about_140 hm hR hK hD 0 σ hf _ _ _ hP hS (lv_sub hl [] rfl)
        · rw [if_neg c_132] at hf
          refine lv_iconst (v := 1) hx hb dX8_about_135 (by decide) ?_
          refine lv_goto (tgt := 140) hx hb dX8_about_136 (by decide) ?_
          exact w_X8_about_140 hm hR hK hD 1 σ hf _ _ _ hP hS (lv_sub hl [] rfl)
      rw [if_neg c_77_1] at hf
      by_cases c_77_2 : v2 = 2
      · rw [if_pos c_77_2] at hf
        refine lv_tableIn (off := 64) (tgt := 141) hx hb dX8_about_77 (by rw [c_77_2]; decide) (by rw [c_77_2]; decide) (by rw [c_77_2]; rfl) (by decide) ?_
        refine lv_aload_n hx hb dX8_about_141 rfl (lv_at hl 0 rfl) ?_
        refine lv_iload_n hx hb dX8_about_142 rfl (lv_at hl 1 rfl) ?_
        refine lv_aload_n hx hb dX8_about_143 rfl (lv_at hl 0 rfl) ?_
        refine va_get (D := D) (ci := 7) (v := .int (σ.1 0 5)) (C := RX8) (T := TX8) (N := 50) hx hb hts in_X8_about_X8 hown hK hP 0 (wM_0 _ _ _ _ _) rfl 5 (by decide) (hts (.fieldLink RX8 131 "CallGraphsModel" "members" "I") (List.mem_of_getElem? (i := 1) rfl)) (fun _ h9 => h9) (fM_0_5 _ _) dX8_about_144 ?_
        obtain ⟨r_147, hg_147, hf⟩ := oc_e hf
        refine mV_ri (wd := wM ad cI cJ cZ) (σ := σ) (As := [.int v1, .int (σ.1 0 5)]) (rest := []) ⟨hx, hb, hml, hown, hts⟩ hK hP hD hS (c_X8_callersOf l D ad cI cJ cZ σ v1 (σ.1 0 5) hg_147) (cwV 2 hts gX8_about_X8_callersOf rfl rfl rfl hd_X8_callersOf ⟨Nat.le_trans (Nat.le_of_ble_eq_true rfl) hR.1, Nat.le_trans (Nat.le_of_ble_eq_true rfl) hR.2⟩) rfl (wM_0 _ _ _ _ _) rfl hl.1 rfl (Nat.le_of_ble_eq_true rfl) dX8_about_147 (fun H locs hP hS => ?_)
        exact rt_i (wd := wM ad cI cJ cZ) hx hb hr hlk (Option.some.inj hf) hP hS dX8_about_150
      rw [if_neg c_77_2] at hf
      by_cases c_77_3 : v2 = 3
      · rw [if_pos c_77_3] at hf
        refine lv_tableIn (off := 74) (tgt := 151) hx hb dX8_about_77 (by rw [c_77_3]; decide) (by rw [c_77_3]; decide) (by rw [c_77_3]; rfl) (by decide) ?_
        refine lv_iload_n hx hb dX8_about_151 rfl (lv_at hl 3 rfl) ?_
        exact rt_i (wd := wM ad cI cJ cZ) hx hb hr hlk (Option.some.inj hf) hP hS dX8_about_152
      rw [if_neg c_77_3] at hf
      by_cases c_77_4 : v2 = 4
      · rw [if_pos c_77_4] at hf
        refine lv_tableIn (off := 76) (tgt := 153) hx hb dX8_about_77 (by rw [c_77_4]; decide) (by rw [c_77_4]; decide) (by rw [c_77_4]; rfl) (by decide) ?_
        refine lv_iload hx hb dX8_about_153 (lv_at hl 4 rfl) ?_
        exact rt_i (wd := wM ad cI cJ cZ) hx hb hr hlk (Option.some.inj hf) hP hS dX8_about_155
      rw [if_neg c_77_4] at hf
      refine lv_tableOut (tgt := 156) hx hb dX8_about_77 (by have g0 := lv_neT c_77_0 (a := 0) (by decide); have g1 := lv_neT c_77_1 (a := 1) (by decide); have g2 := lv_neT c_77_2 (a := 2) (by decide); have g3 := lv_neT c_77_3 (a := 3) (by decide); have g4 := lv_neT c_77_4 (a := 4) (by decide); omega) (by decide) ?_
      refine lv_bipush (v := (-102)) hx hb dX8_about_156 (by decide) ?_
      exact rt_i (wd := wM ad cI cJ cZ) hx hb hr hlk (Option.some.inj hf) hP hS dX8_about_158
    · rw [if_neg c_30] at hf
      refine lv_iload_n hx hb dX8_about_33 rfl (lv_at hl 3 rfl) ?_
      refine lv_aload_n hx hb dX8_about_34 rfl (lv_at hl 0 rfl) ?_
      refine lv_iload_n hx hb dX8_about_35 rfl (lv_at hl 1 rfl) ?_
      refine lv_iload hx hb dX8_about_36 (lv_at hl 5 rfl) ?_
      obtain ⟨r_38, hg_38, hf⟩ := oc_e hf
      refine mV_ri (wd := wM ad cI cJ cZ) (σ := σ) (As := [.int v1, .int v5]) (rest := [.int v3]) ⟨hx, hb, hml, hown, hts⟩ hK hP hD hS (c_X8_isRing l D ad cI cJ cZ σ v1 v5 hg_38) (cwV 2 hts gX8_about_X8_isRing rfl rfl rfl hd_X8_isRing ⟨Nat.le_trans (Nat.le_of_ble_eq_true rfl) hR.1, Nat.le_trans (Nat.le_of_ble_eq_true rfl) hR.2⟩) rfl (wM_0 _ _ _ _ _) rfl hl.1 rfl (Nat.le_of_ble_eq_true rfl) dX8_about_38 (fun H locs hP hS => ?_)
      refine lv_if_eq (tgt := 48) hx hb dX8_about_41 (by decide) (fun c_41 => ?_) (fun c_41 => ?_)
      · rw [if_pos c_41] at hf
        refine lv_iconst (v := 0) hx hb dX8_about_48 (by decide) ?_
        exact w_X8_about_49 hm hR hK hD (p_X8_about_28 n) hk28 v1 v2 v4 v5 0 v3 σ hf _ _ _ hP hS (lv_sub hl [0, 1, 2, 4, 5] rfl)
      · rw [if_neg c_41] at hf
        refine lv_iconst (v := 1) hx hb dX8_about_44 (by decide) ?_
        refine lv_goto (tgt := 49) hx hb dX8_about_45 (by decide) ?_
        exact w_X8_about_49 hm hR hK hD (p_X8_about_28 n) hk28 v1 v2 v4 v5 1 v3 σ hf _ _ _ hP hS (lv_sub hl [0, 1, 2, 4, 5] rfl)
def p_X8_about_0 (v1 : Int32) (v2 : Int32) (σ : SS) : Option (Int32 × SS) := oc (p_X8_isMember_0 σ v1) (fun r_2 => if r_2 = 0 then some ((-101), σ) else oc (p_X8_freshen_0 σ) (fun r_12 => p_X8_about_28 100000 v1 v2 0 (-1) ((r_12.1 0 5) - 1) r_12))
set_option maxHeartbeats 4000000 in
set_option maxRecDepth 100000 in
theorem w_X8_about_0 {p : Program} {l : Launch} {e : Env} {R : Room} {s : State} {m : MethodId} {args : Array Value} {below : List Frame} {meth : Method} {c : Code} {D : va_G} {ad : Nat → Nat} {cI cJ cZ : ClassId} {res : Int32 × SS} (hm : mx p s m args meth c cX8_about 6 (some .int) wsX8_about RX8) (hR : 7 ≤ R.frames ∧ 175 ≤ R.locals) (hK : va_K D vwCl (tyw cI cJ cZ) s) (hD : ∀ σ, va_D (aM ad) (wM ad cI cJ cZ σ)) (v1 : Int32) (v2 : Int32) (σ : SS) (hf : p_X8_about_0 v1 v2 σ = some res) (H : Heap) (locs : List Loc) (ls : Array Slot) (hP : va_P D vwCl (wM ad cI cJ cZ σ) H) (hS : va_S (aM ad) s.heap H locs) (hl : lv_has ls 6 [(0, .ref (ad 0)), (1, .int v1), (2, .int v2)]) : W p l e R s m args below meth c H locs 0 0 (MQ below (va_Qi (fun (r : Int32) (u : SS) => (r, u) = res) (fun u t => va_P D vwCl (wM ad cI cJ cZ u) t.heap) (aM ad)) args s 0 0 (aM ad)) (F0 m 0 ls []) := by
  obtain ⟨hx, hb, hr, hml, hown, hts, hlk⟩ := id hm
  unfold p_X8_about_0 at hf
  refine lv_aload_n hx hb dX8_about_0 rfl (lv_at hl 0 rfl) ?_
  refine lv_iload_n hx hb dX8_about_1 rfl (lv_at hl 1 rfl) ?_
  obtain ⟨r_2, hg_2, hf⟩ := oc_e hf
  refine mV_ri (wd := wM ad cI cJ cZ) (σ := σ) (As := [.int v1]) (rest := []) ⟨hx, hb, hml, hown, hts⟩ hK hP hD hS (c_X8_isMember l D ad cI cJ cZ σ v1 hg_2) (cwV 1 hts gX8_about_X8_isMember rfl rfl rfl hd_X8_isMember ⟨Nat.le_trans (Nat.le_of_ble_eq_true rfl) hR.1, Nat.le_trans (Nat.le_of_ble_eq_true rfl) hR.2⟩) rfl (wM_0 _ _ _ _ _) rfl hl.1 rfl (Nat.le_of_ble_eq_true rfl) dX8_about_2 (fun H locs hP hS => ?_)
  refine lv_if_ne (tgt := 11) hx hb dX8_about_5 (by decide) (fun c_5 => ?_) (fun c_5 => ?_)
  · rw [if_neg c_5] at hf
    refine lv_aload_n hx hb dX8_about_11 rfl (lv_at hl 0 rfl) ?_
    obtain ⟨r_12, hg_12, hf⟩ := oc_e hf
    refine mV_wv (wd := wM ad cI cJ cZ) (σ := σ) (As := []) (rest := []) ⟨hx, hb, hml, hown, hts⟩ hK hP hD hS (c_X8_freshen l D ad cI cJ cZ σ hg_12) (cwV 0 hts gX8_about_X8_freshen rfl rfl rfl hd_X8_freshen ⟨Nat.le_trans (Nat.le_of_ble_eq_true rfl) hR.1, Nat.le_trans (Nat.le_of_ble_eq_true rfl) hR.2⟩) rfl (wM_0 _ _ _ _ _) rfl hl.1 rfl (Nat.le_of_ble_eq_true rfl) dX8_about_12 (fun H locs hP hS => ?_)
    refine lv_iconst (v := 0) hx hb dX8_about_15 (by decide) ?_
    refine lv_istore_n (lv' := [(3, .int 0), (0, .ref (ad 0)), (1, .int v1), (2, .int v2)]) hx hb dX8_about_16 rfl hl (by decide) rfl (fun ls hl => ?_)
    refine lv_iconst (v := (-1)) hx hb dX8_about_17 (by decide) ?_
    refine lv_istore (lv' := [(4, .int (-1)), (3, .int 0), (0, .ref (ad 0)), (1, .int v1), (2, .int v2)]) hx hb dX8_about_18 hl (by decide) rfl (fun ls hl => ?_)
    refine lv_aload_n hx hb dX8_about_20 rfl (lv_at hl 2 rfl) ?_
    refine va_get (D := D) (ci := 7) (v := .int (r_12.1 0 5)) (C := RX8) (T := TX8) (N := 50) hx hb hts in_X8_about_X8 hown hK hP 0 (wM_0 _ _ _ _ _) rfl 5 (by decide) (hts (.fieldLink RX8 131 "CallGraphsModel" "members" "I") (List.mem_of_getElem? (i := 1) rfl)) (fun _ h9 => h9) (fM_0_5 _ _) dX8_about_21 ?_
    refine lv_iconst (v := 1) hx hb dX8_about_24 (by decide) ?_
    refine lv_isub hx hb dX8_about_25 ?_
    refine lv_istore (lv' := [(5, .int ((r_12.1 0 5) - 1)), (4, .int (-1)), (3, .int 0), (0, .ref (ad 0)), (1, .int v1), (2, .int v2)]) hx hb dX8_about_26 hl (by decide) rfl (fun ls hl => ?_)
    exact w_X8_about_28 hm hR hK hD 100000 v1 v2 0 (-1) ((r_12.1 0 5) - 1) r_12 hf _ _ _ hP hS (lv_sub hl [3, 4, 5, 2, 1, 0] rfl)
  · rw [if_pos c_5] at hf
    refine lv_bipush (v := (-101)) hx hb dX8_about_8 (by decide) ?_
    exact rt_i (wd := wM ad cI cJ cZ) hx hb hr hlk (Option.some.inj hf) hP hS dX8_about_10
theorem hd_X8_about : yX8_about.cls = RX8 ∧ yX8_about.cls ≠ "java/lang/invoke/MethodHandle" ∧ yX8_about.cls ≠ "java/lang/invoke/VarHandle" ∧ (parseMethodDescriptor yX8_about.desc).map (fun d => d.parameters.length) = some 2 := by decide +kernel
set_option maxHeartbeats 4000000 in
set_option maxRecDepth 100000 in
theorem c_X8_about (l : Launch) (D : va_G) (ad : Nat → Nat) (cI cJ cZ : ClassId) (σ : SS) (v1 : Int32) (v2 : Int32) {res : Int32 × SS} (hf : p_X8_about_0 v1 v2 σ = some res) : Met l yX8_about wsX8_about ({ frames := 7, cells := 0, slots := 0, locals := 175 } : Room) (PW D (tyw cI cJ cZ) (wM ad cI cJ cZ σ) [.ref (ad 0), .int v1, .int v2]) (va_Qi (fun (r : Int32) (u : SS) => (r, u) = res) (fun u t => va_P D vwCl (wM ad cI cJ cZ u) t.heap) (aM ad)) 0 0 (aM ad) := by
  refine Met.ofW (cc := cX8_about) (maxL := 6) (ret := (some .int)) (by decide) rfl ?_
  intro p e s m args below meth c s₁ B hml hv
  obtain ⟨rfl, hP, hK, hD0⟩ := hv
  have hD : ∀ σ, va_D (aM ad) (wM ad cI cJ cZ σ) := fun σ => wd_D hD0 (wM_map _ _ _ _ _) (wM_map _ _ _ _ _)
  have hm : mx p s m _ meth c cX8_about 6 (some .int) wsX8_about RX8 := ⟨B.exec, B.bytes, B.returns, hml, findClass_of_methodNamed B.named, atoms_spec (ws := wsX8_about) B.pre, B.notSynchronized⟩
  have hl := lv_entry ([.ref (ad 0), .int v1, .int v2]) (n := 6) (Nat.le_of_ble_eq_true rfl)
  rw [lg_entry_eq]
  generalize (lg_sl ([.ref (ad 0), .int v1, .int v2]) ++ List.replicate (6 - (lg_sl ([.ref (ad 0), .int v1, .int v2])).length) Slot.unset).toArray = ls at hl ⊢
  exact w_X8_about_0 hm ⟨Nat.le_refl _, Nat.le_refl _⟩ hK hD v1 v2 σ hf _ _ _ hP va_S.rf hl
/-! CallGraphsModel.made(II)I -/
theorem in_X8_made_X8 : ∀ w ∈ u_ws RX8 TX8 50, w ∈ wsX8_made := fun w h => List.mem_cons_of_mem _ (List.mem_append_right _ h)
def p_X8_made_60 (t0 : Int32) (σ : SS) : Option (Int32 × SS) := some (t0, σ)
set_option maxHeartbeats 4000000 in
set_option maxRecDepth 100000 in
theorem w_X8_made_60 {p : Program} {l : Launch} {e : Env} {R : Room} {s : State} {m : MethodId} {args : Array Value} {below : List Frame} {meth : Method} {c : Code} {D : va_G} {ad : Nat → Nat} {cI cJ cZ : ClassId} {res : Int32 × SS} (hm : mx p s m args meth c cX8_made 3 (some .int) wsX8_made RX8) (hR : 7 ≤ R.frames ∧ 175 ≤ R.locals) (hK : va_K D vwCl (tyw cI cJ cZ) s) (hD : ∀ σ, va_D (aM ad) (wM ad cI cJ cZ σ)) (t0 : Int32) (σ : SS) (hf : p_X8_made_60 t0 σ = some res) (H : Heap) (locs : List Loc) (ls : Array Slot) (hP : va_P D vwCl (wM ad cI cJ cZ σ) H) (hS : va_S (aM ad) s.heap H locs) (hl : lv_has ls 3 []) : W p l e R s m args below meth c H locs 0 0 (MQ below (va_Qi (fun (r : Int32) (u : SS) => (r, u) = res) (fun u t => va_P D vwCl (wM ad cI cJ cZ u) t.heap) (aM ad)) args s 0 0 (aM ad)) (F0 m 60 ls [.int t0]) := by
  obtain ⟨hx, hb, hr, hml, hown, hts, hlk⟩ := id hm
  unfold p_X8_made_60 at hf
  exact rt_i (wd := wM ad cI cJ cZ) hx hb hr hlk (Option.some.inj hf) hP hS dX8_made_60
def p_X8_made_0 (v1 : Int32) (v2 : Int32) (σ : SS) : Option (Int32 × SS) := oc (p_X8_isType_0 σ v1) (fun r_2 => if r_2 = 0 then some ((-101), σ) else oc (p_X8_freshen_0 σ) (fun r_12 => if v2 = 0 then oi v1 16 (if (r_12.1 15 v1.toNatClampNeg) = 0 then p_X8_made_60 0 r_12 else p_X8_made_60 1 r_12) else if v2 = 1 then oi v1 16 (if (r_12.1 16 v1.toNatClampNeg) = 0 then p_X8_made_60 0 r_12 else p_X8_made_60 1 r_12) else p_X8_made_60 (-102) r_12))
set_option maxHeartbeats 4000000 in
set_option maxRecDepth 100000 in
theorem w_X8_made_0 {p : Program} {l : Launch} {e : Env} {R : Room} {s : State} {m : MethodId} {args : Array Value} {below : List Frame} {meth : Method} {c : Code} {D : va_G} {ad : Nat → Nat} {cI cJ cZ : ClassId} {res : Int32 × SS} (hm : mx p s m args meth c cX8_made 3 (some .int) wsX8_made RX8) (hR : 7 ≤ R.frames ∧ 175 ≤ R.locals) (hK : va_K D vwCl (tyw cI cJ cZ) s) (hD : ∀ σ, va_D (aM ad) (wM ad cI cJ cZ σ)) (v1 : Int32) (v2 : Int32) (σ : SS) (hf : p_X8_made_0 v1 v2 σ = some res) (H : Heap) (locs : List Loc) (ls : Array Slot) (hP : va_P D vwCl (wM ad cI cJ cZ σ) H) (hS : va_S (aM ad) s.heap H locs) (hl : lv_has ls 3 [(0, .ref (ad 0)), (1, .int v1), (2, .int v2)]) : W p l e R s m args below meth c H locs 0 0 (MQ below (va_Qi (fun (r : Int32) (u : SS) => (r, u) = res) (fun u t => va_P D vwCl (wM ad cI cJ cZ u) t.heap) (aM ad)) args s 0 0 (aM ad)) (F0 m 0 ls []) := by
  obtain ⟨hx, hb, hr, hml, hown, hts, hlk⟩ := id hm
  unfold p_X8_made_0 at hf
  refine lv_aload_n hx hb dX8_made_0 rfl (lv_at hl 0 rfl) ?_
  refine lv_iload_n hx hb dX8_made_1 rfl (lv_at hl 1 rfl) ?_
  obtain ⟨r_2, hg_2, hf⟩ := oc_e hf
  refine mV_ri (wd := wM ad cI cJ cZ) (σ := σ) (As := [.int v1]) (rest := []) ⟨hx, hb, hml, hown, hts⟩ hK hP hD hS (c_X8_isType l D ad cI cJ cZ σ v1 hg_2) (cwV 1 hts gX8_made_X8_isType rfl rfl rfl hd_X8_isType ⟨Nat.le_trans (Nat.le_of_ble_eq_true rfl) hR.1, Nat.le_trans (Nat.le_of_ble_eq_true rfl) hR.2⟩) rfl (wM_0 _ _ _ _ _) rfl hl.1 rfl (Nat.le_of_ble_eq_true rfl) dX8_made_2 (fun H locs hP hS => ?_)
  refine lv_if_ne (tgt := 11) hx hb dX8_made_5 (by decide) (fun c_5 => ?_) (fun c_5 => ?_)
  · rw [if_neg c_5] at hf
    refine lv_aload_n hx hb dX8_made_11 rfl (lv_at hl 0 rfl) ?_
    obtain ⟨r_12, hg_12, hf⟩ := oc_e hf
    refine mV_wv (wd := wM ad cI cJ cZ) (σ := σ) (As := []) (rest := []) ⟨hx, hb, hml, hown, hts⟩ hK hP hD hS (c_X8_freshen l D ad cI cJ cZ σ hg_12) (cwV 0 hts gX8_made_X8_freshen rfl rfl rfl hd_X8_freshen ⟨Nat.le_trans (Nat.le_of_ble_eq_true rfl) hR.1, Nat.le_trans (Nat.le_of_ble_eq_true rfl) hR.2⟩) rfl (wM_0 _ _ _ _ _) rfl hl.1 rfl (Nat.le_of_ble_eq_true rfl) dX8_made_12 (fun H locs hP hS => ?_)
    refine lv_iload_n hx hb dX8_made_15 rfl (lv_at hl 2 rfl) ?_
    refine lv_if_ne (tgt := 36) hx hb dX8_made_16 (by decide) (fun c_16 => ?_) (fun c_16 => ?_)
    · rw [if_neg c_16] at hf
      refine lv_iload_n hx hb dX8_made_36 rfl (lv_at hl 2 rfl) ?_
      refine lv_iconst (v := 1) hx hb dX8_made_37 (by decide) ?_
      refine lv_icmp_ne (tgt := 58) hx hb dX8_made_38 (by decide) (fun c_38 => ?_) (fun c_38 => ?_)
      · rw [if_neg c_38] at hf
        refine lv_bipush (v := (-102)) hx hb dX8_made_58 (by decide) ?_
        exact w_X8_made_60 hm hR hK hD (-102) r_12 hf _ _ _ hP hS (lv_sub hl [] rfl)
      · rw [if_pos c_38] at hf
        refine lv_aload_n hx hb dX8_made_41 rfl (lv_at hl 0 rfl) ?_
        refine va_get (D := D) (ci := 7) (v := .ref (ad 16)) (C := RX8) (T := TX8) (N := 50) hx hb hts in_X8_made_X8 hown hK hP 0 (wM_0 _ _ _ _ _) rfl 20 (by decide) (hts (.fieldLink RX8 56 "CallGraphsModel" "begunAt" "[Z") (List.mem_of_getElem? (i := 2) rfl)) (fun _ h9 => h9) (fM_0_20 _ _) dX8_made_42 ?_
        refine lv_iload_n hx hb dX8_made_45 rfl (lv_at hl 1 rfl) ?_
        obtain ⟨h_46, hf⟩ := oi_e hf
        refine va_zald hx hb hK hP 16 2 (wM_16 _ _ _ _ _) rfl h_46 dX8_made_46 ?_
        refine lv_if_eq (tgt := 54) hx hb dX8_made_47 (by decide) (fun c_47 => ?_) (fun c_47 => ?_)
        · rw [if_pos c_47] at hf
          refine lv_iconst (v := 0) hx hb dX8_made_54 (by decide) ?_
          refine lv_goto (tgt := 60) hx hb dX8_made_55 (by decide) ?_
          exact w_X8_made_60 hm hR hK hD 0 r_12 hf _ _ _ hP hS (lv_sub hl [] rfl)
        · rw [if_neg c_47] at hf
          refine lv_iconst (v := 1) hx hb dX8_made_50 (by decide) ?_
          refine lv_goto (tgt := 60) hx hb dX8_made_51 (by decide) ?_
          exact w_X8_made_60 hm hR hK hD 1 r_12 hf _ _ _ hP hS (lv_sub hl [] rfl)
    · rw [if_pos c_16] at hf
      refine lv_aload_n hx hb dX8_made_19 rfl (lv_at hl 0 rfl) ?_
      refine va_get (D := D) (ci := 7) (v := .ref (ad 15)) (C := RX8) (T := TX8) (N := 50) hx hb hts in_X8_made_X8 hown hK hP 0 (wM_0 _ _ _ _ _) rfl 19 (by decide) (hts (.fieldLink RX8 53 "CallGraphsModel" "madeAt" "[Z") (List.mem_of_getElem? (i := 1) rfl)) (fun _ h9 => h9) (fM_0_19 _ _) dX8_made_20 ?_
      refine lv_iload_n hx hb dX8_made_23 rfl (lv_at hl 1 rfl) ?_
      obtain ⟨h_24, hf⟩ := oi_e hf
      refine va_zald hx hb hK hP 15 2 (wM_15 _ _ _ _ _) rfl h_24 dX8_made_24 ?_
      refine lv_if_eq (tgt := 32) hx hb dX8_made_25 (by decide) (fun c_25 => ?_) (fun c_25 => ?_)
      · rw [if_pos c_25] at hf
        refine lv_iconst (v := 0) hx hb dX8_made_32 (by decide) ?_
        refine lv_goto (tgt := 60) hx hb dX8_made_33 (by decide) ?_
        exact w_X8_made_60 hm hR hK hD 0 r_12 hf _ _ _ hP hS (lv_sub hl [] rfl)
      · rw [if_neg c_25] at hf
        refine lv_iconst (v := 1) hx hb dX8_made_28 (by decide) ?_
        refine lv_goto (tgt := 60) hx hb dX8_made_29 (by decide) ?_
        exact w_X8_made_60 hm hR hK hD 1 r_12 hf _ _ _ hP hS (lv_sub hl [] rfl)
  · rw [if_pos c_5] at hf
    refine lv_bipush (v := (-101)) hx hb dX8_made_8 (by decide) ?_
    exact rt_i (wd := wM ad cI cJ cZ) hx hb hr hlk (Option.some.inj hf) hP hS dX8_made_10
theorem hd_X8_made : yX8_made.cls = RX8 ∧ yX8_made.cls ≠ "java/lang/invoke/MethodHandle" ∧ yX8_made.cls ≠ "java/lang/invoke/VarHandle" ∧ (parseMethodDescriptor yX8_made.desc).map (fun d => d.parameters.length) = some 2 := by decide +kernel
set_option maxHeartbeats 4000000 in
set_option maxRecDepth 100000 in
theorem c_X8_made (l : Launch) (D : va_G) (ad : Nat → Nat) (cI cJ cZ : ClassId) (σ : SS) (v1 : Int32) (v2 : Int32) {res : Int32 × SS} (hf : p_X8_made_0 v1 v2 σ = some res) : Met l yX8_made wsX8_made ({ frames := 7, cells := 0, slots := 0, locals := 175 } : Room) (PW D (tyw cI cJ cZ) (wM ad cI cJ cZ σ) [.ref (ad 0), .int v1, .int v2]) (va_Qi (fun (r : Int32) (u : SS) => (r, u) = res) (fun u t => va_P D vwCl (wM ad cI cJ cZ u) t.heap) (aM ad)) 0 0 (aM ad) := by
  refine Met.ofW (cc := cX8_made) (maxL := 3) (ret := (some .int)) (by decide) rfl ?_
  intro p e s m args below meth c s₁ B hml hv
  obtain ⟨rfl, hP, hK, hD0⟩ := hv
  have hD : ∀ σ, va_D (aM ad) (wM ad cI cJ cZ σ) := fun σ => wd_D hD0 (wM_map _ _ _ _ _) (wM_map _ _ _ _ _)
  have hm : mx p s m _ meth c cX8_made 3 (some .int) wsX8_made RX8 := ⟨B.exec, B.bytes, B.returns, hml, findClass_of_methodNamed B.named, atoms_spec (ws := wsX8_made) B.pre, B.notSynchronized⟩
  have hl := lv_entry ([.ref (ad 0), .int v1, .int v2]) (n := 3) (Nat.le_of_ble_eq_true rfl)
  rw [lg_entry_eq]
  generalize (lg_sl ([.ref (ad 0), .int v1, .int v2]) ++ List.replicate (3 - (lg_sl ([.ref (ad 0), .int v1, .int v2])).length) Slot.unset).toArray = ls at hl ⊢
  exact w_X8_made_0 hm ⟨Nat.le_refl _, Nat.le_refl _⟩ hK hD v1 v2 σ hf _ _ _ hP va_S.rf hl
/-! CallGraphsModel.isOp(II)Z -/
theorem in_X8_isOp_X8 : ∀ w ∈ u_ws RX8 TX8 50, w ∈ wsX8_isOp := fun w h => List.mem_cons_of_mem _ (List.mem_append_right _ h)
def p_X8_isOp_29 (σ : SS) (t0 : Int32) : Option (Int32) := ob t0 (some t0)
set_option maxHeartbeats 4000000 in
set_option maxRecDepth 100000 in
theorem w_X8_isOp_29 {p : Program} {l : Launch} {e : Env} {R : Room} {s : State} {m : MethodId} {args : Array Value} {below : List Frame} {meth : Method} {c : Code} {D : va_G} {ad : Nat → Nat} {cI cJ cZ : ClassId} {res : Int32} (hm : mx p s m args meth c cX8_isOp 3 (some .boolean) wsX8_isOp RX8) (hR : 2 ≤ R.frames ∧ 43 ≤ R.locals) (hK : va_K D vwCl (tyw cI cJ cZ) s) (hD : ∀ σ, va_D (aM ad) (wM ad cI cJ cZ σ)) (σ : SS) (t0 : Int32) (hf : p_X8_isOp_29 σ t0 = some res) (H : Heap) (locs : List Loc) (ls : Array Slot) (hP : va_P D vwCl (wM ad cI cJ cZ σ) H) (hS : va_S (aM ad) s.heap H locs) (hl : lv_has ls 3 []) : W p l e R s m args below meth c H locs 0 0 (MQ below (va_Qi (fun (r : Int32) (u : SS) => r = res ∧ u = σ) (fun u t => va_P D vwCl (wM ad cI cJ cZ u) t.heap) (aM ad)) args s 0 0 (aM ad)) (F0 m 29 ls [.int t0]) := by
  obtain ⟨hx, hb, hr, hml, hown, hts, hlk⟩ := id hm
  unfold p_X8_isOp_29 at hf
  obtain ⟨h_29, hf⟩ := ob_e hf
  exact rt_z (wd := wM ad cI cJ cZ) hx hb hr hlk h_29 ⟨Option.some.inj hf, rfl⟩ hP hS dX8_isOp_29
def p_X8_isOp_28 (σ : SS) : Option (Int32) := p_X8_isOp_29 σ 0
set_option maxHeartbeats 4000000 in
set_option maxRecDepth 100000 in
theorem w_X8_isOp_28 {p : Program} {l : Launch} {e : Env} {R : Room} {s : State} {m : MethodId} {args : Array Value} {below : List Frame} {meth : Method} {c : Code} {D : va_G} {ad : Nat → Nat} {cI cJ cZ : ClassId} {res : Int32} (hm : mx p s m args meth c cX8_isOp 3 (some .boolean) wsX8_isOp RX8) (hR : 2 ≤ R.frames ∧ 43 ≤ R.locals) (hK : va_K D vwCl (tyw cI cJ cZ) s) (hD : ∀ σ, va_D (aM ad) (wM ad cI cJ cZ σ)) (σ : SS) (hf : p_X8_isOp_28 σ = some res) (H : Heap) (locs : List Loc) (ls : Array Slot) (hP : va_P D vwCl (wM ad cI cJ cZ σ) H) (hS : va_S (aM ad) s.heap H locs) (hl : lv_has ls 3 []) : W p l e R s m args below meth c H locs 0 0 (MQ below (va_Qi (fun (r : Int32) (u : SS) => r = res ∧ u = σ) (fun u t => va_P D vwCl (wM ad cI cJ cZ u) t.heap) (aM ad)) args s 0 0 (aM ad)) (F0 m 28 ls []) := by
  obtain ⟨hx, hb, hr, hml, hown, hts, hlk⟩ := id hm
  unfold p_X8_isOp_28 at hf
  refine lv_iconst (v := 0) hx hb dX8_isOp_28 (by decide) ?_
  exact w_X8_isOp_29 hm hR hK hD σ 0 hf _ _ _ hP hS (lv_sub hl [] rfl)
def p_X8_isOp_0 (σ : SS) (v1 : Int32) (v2 : Int32) : Option (Int32) := oc (p_X8_isMember_0 σ v1) (fun r_2 => if r_2 = 0 then p_X8_isOp_28 σ else oi v1 48 (oc (p_X8_in_0 v2 0 ((σ.1 9 v1.toNatClampNeg) - 1)) (fun r_18 => if r_18 = 0 then p_X8_isOp_28 σ else p_X8_isOp_29 σ 1)))
set_option maxHeartbeats 4000000 in
set_option maxRecDepth 100000 in
theorem w_X8_isOp_0 {p : Program} {l : Launch} {e : Env} {R : Room} {s : State} {m : MethodId} {args : Array Value} {below : List Frame} {meth : Method} {c : Code} {D : va_G} {ad : Nat → Nat} {cI cJ cZ : ClassId} {res : Int32} (hm : mx p s m args meth c cX8_isOp 3 (some .boolean) wsX8_isOp RX8) (hR : 2 ≤ R.frames ∧ 43 ≤ R.locals) (hK : va_K D vwCl (tyw cI cJ cZ) s) (hD : ∀ σ, va_D (aM ad) (wM ad cI cJ cZ σ)) (σ : SS) (v1 : Int32) (v2 : Int32) (hf : p_X8_isOp_0 σ v1 v2 = some res) (H : Heap) (locs : List Loc) (ls : Array Slot) (hP : va_P D vwCl (wM ad cI cJ cZ σ) H) (hS : va_S (aM ad) s.heap H locs) (hl : lv_has ls 3 [(0, .ref (ad 0)), (1, .int v1), (2, .int v2)]) : W p l e R s m args below meth c H locs 0 0 (MQ below (va_Qi (fun (r : Int32) (u : SS) => r = res ∧ u = σ) (fun u t => va_P D vwCl (wM ad cI cJ cZ u) t.heap) (aM ad)) args s 0 0 (aM ad)) (F0 m 0 ls []) := by
  obtain ⟨hx, hb, hr, hml, hown, hts, hlk⟩ := id hm
  unfold p_X8_isOp_0 at hf
  refine lv_aload_n hx hb dX8_isOp_0 rfl (lv_at hl 0 rfl) ?_
  refine lv_iload_n hx hb dX8_isOp_1 rfl (lv_at hl 1 rfl) ?_
  obtain ⟨r_2, hg_2, hf⟩ := oc_e hf
  refine mV_ri (wd := wM ad cI cJ cZ) (σ := σ) (As := [.int v1]) (rest := []) ⟨hx, hb, hml, hown, hts⟩ hK hP hD hS (c_X8_isMember l D ad cI cJ cZ σ v1 hg_2) (cwV 1 hts gX8_isOp_X8_isMember rfl rfl rfl hd_X8_isMember ⟨Nat.le_trans (Nat.le_of_ble_eq_true rfl) hR.1, Nat.le_trans (Nat.le_of_ble_eq_true rfl) hR.2⟩) rfl (wM_0 _ _ _ _ _) rfl hl.1 rfl (Nat.le_of_ble_eq_true rfl) dX8_isOp_2 (fun H locs hP hS => ?_)
  refine lv_if_eq (tgt := 28) hx hb dX8_isOp_5 (by decide) (fun c_5 => ?_) (fun c_5 => ?_)
  · rw [if_pos c_5] at hf
    exact w_X8_isOp_28 hm hR hK hD σ hf _ _ _ hP hS (lv_sub hl [] rfl)
  · rw [if_neg c_5] at hf
    refine lv_iload_n hx hb dX8_isOp_8 rfl (lv_at hl 2 rfl) ?_
    refine lv_iconst (v := 0) hx hb dX8_isOp_9 (by decide) ?_
    refine lv_aload_n hx hb dX8_isOp_10 rfl (lv_at hl 0 rfl) ?_
    refine va_get (D := D) (ci := 7) (v := .ref (ad 9)) (C := RX8) (T := TX8) (N := 50) hx hb hts in_X8_isOp_X8 hown hK hP 0 (wM_0 _ _ _ _ _) rfl 10 (by decide) (hts (.fieldLink RX8 35 "CallGraphsModel" "opMany" "[I") (List.mem_of_getElem? (i := 1) rfl)) (fun _ h9 => h9) (fM_0_10 _ _) dX8_isOp_11 ?_
    refine lv_iload_n hx hb dX8_isOp_14 rfl (lv_at hl 1 rfl) ?_
    obtain ⟨h_15, hf⟩ := oi_e hf
    refine va_iald hx hb hK hP 9 0 (wM_9 _ _ _ _ _) rfl h_15 dX8_isOp_15 ?_
    refine lv_iconst (v := 1) hx hb dX8_isOp_16 (by decide) ?_
    refine lv_isub hx hb dX8_isOp_17 ?_
    obtain ⟨r_18, hg_18, hf⟩ := oc_e hf
    refine mS_i (D := D) (As := [.int v2, .int 0, .int ((σ.1 9 v1.toNatClampNeg) - 1)]) (rest := []) ⟨hx, hb, hml, hown, hts⟩ hP hS (c_X8_in l v2 0 ((σ.1 9 v1.toNatClampNeg) - 1) hg_18) (va_cwS 3 hts gX8_isOp_X8_in rfl rfl rfl hd_X8_in ⟨Nat.le_trans (Nat.le_of_ble_eq_true rfl) hR.1, Nat.le_trans (Nat.le_of_ble_eq_true rfl) hR.2⟩) rfl hl.1 rfl (Nat.le_of_ble_eq_true rfl) dX8_isOp_18 (fun H locs hP hS => ?_)
    refine lv_if_eq (tgt := 28) hx hb dX8_isOp_21 (by decide) (fun c_21 => ?_) (fun c_21 => ?_)
    · rw [if_pos c_21] at hf
      exact w_X8_isOp_28 hm hR hK hD σ hf _ _ _ hP hS (lv_sub hl [] rfl)
    · rw [if_neg c_21] at hf
      refine lv_iconst (v := 1) hx hb dX8_isOp_24 (by decide) ?_
      refine lv_goto (tgt := 29) hx hb dX8_isOp_25 (by decide) ?_
      exact w_X8_isOp_29 hm hR hK hD σ 1 hf _ _ _ hP hS (lv_sub hl [] rfl)
theorem hd_X8_isOp : yX8_isOp.cls = RX8 ∧ yX8_isOp.cls ≠ "java/lang/invoke/MethodHandle" ∧ yX8_isOp.cls ≠ "java/lang/invoke/VarHandle" ∧ (parseMethodDescriptor yX8_isOp.desc).map (fun d => d.parameters.length) = some 2 := by decide +kernel
set_option maxHeartbeats 4000000 in
set_option maxRecDepth 100000 in
theorem c_X8_isOp (l : Launch) (D : va_G) (ad : Nat → Nat) (cI cJ cZ : ClassId) (σ : SS) (v1 : Int32) (v2 : Int32) {res : Int32} (hf : p_X8_isOp_0 σ v1 v2 = some res) : Met l yX8_isOp wsX8_isOp ({ frames := 2, cells := 0, slots := 0, locals := 43 } : Room) (PW D (tyw cI cJ cZ) (wM ad cI cJ cZ σ) [.ref (ad 0), .int v1, .int v2]) (va_Qi (fun (r : Int32) (u : SS) => r = res ∧ u = σ) (fun u t => va_P D vwCl (wM ad cI cJ cZ u) t.heap) (aM ad)) 0 0 (aM ad) := by
  refine Met.ofW (cc := cX8_isOp) (maxL := 3) (ret := (some .boolean)) (by decide) rfl ?_
  intro p e s m args below meth c s₁ B hml hv
  obtain ⟨rfl, hP, hK, hD0⟩ := hv
  have hD : ∀ σ, va_D (aM ad) (wM ad cI cJ cZ σ) := fun σ => wd_D hD0 (wM_map _ _ _ _ _) (wM_map _ _ _ _ _)
  have hm : mx p s m _ meth c cX8_isOp 3 (some .boolean) wsX8_isOp RX8 := ⟨B.exec, B.bytes, B.returns, hml, findClass_of_methodNamed B.named, atoms_spec (ws := wsX8_isOp) B.pre, B.notSynchronized⟩
  have hl := lv_entry ([.ref (ad 0), .int v1, .int v2]) (n := 3) (Nat.le_of_ble_eq_true rfl)
  rw [lg_entry_eq]
  generalize (lg_sl ([.ref (ad 0), .int v1, .int v2]) ++ List.replicate (3 - (lg_sl ([.ref (ad 0), .int v1, .int v2])).length) Slot.unset).toArray = ls at hl ⊢
  exact w_X8_isOp_0 hm ⟨Nat.le_refl _, Nat.le_refl _⟩ hK hD σ v1 v2 hf _ _ _ hP va_S.rf hl
/-! CallGraphsModel.callee(III)I -/
theorem in_X8_callee_X8 : ∀ w ∈ u_ws RX8 TX8 50, w ∈ wsX8_callee := fun w h => List.mem_cons_of_mem _ (List.mem_append_right _ h)
def p_X8_callee_68 (k22 : Int32 → Int32 → Int32 → Int32 → Int32 → SS → Option (Int32 × SS)) (v1 : Int32) (v2 : Int32) (v3 : Int32) (v4 : Int32) (v5 : Int32) (σ : SS) : Option (Int32 × SS) := k22 v1 v2 v3 v4 (v5 + 1) σ
set_option maxHeartbeats 4000000 in
set_option maxRecDepth 100000 in
theorem w_X8_callee_68 {p : Program} {l : Launch} {e : Env} {R : Room} {s : State} {m : MethodId} {args : Array Value} {below : List Frame} {meth : Method} {c : Code} {D : va_G} {ad : Nat → Nat} {cI cJ cZ : ClassId} {res : Int32 × SS} (hm : mx p s m args meth c cX8_callee 6 (some .int) wsX8_callee RX8) (hR : 7 ≤ R.frames ∧ 175 ≤ R.locals) (hK : va_K D vwCl (tyw cI cJ cZ) s) (hD : ∀ σ, va_D (aM ad) (wM ad cI cJ cZ σ)) (k22 : Int32 → Int32 → Int32 → Int32 → Int32 → SS → Option (Int32 × SS)) (hk22 : ∀ (v1 : Int32) (v2 : Int32) (v3 : Int32) (v4 : Int32) (v5 : Int32) (σ : SS), k22 v1 v2 v3 v4 v5 σ = some res → ∀ (H : Heap) (locs : List Loc) (ls : Array Slot), va_P D vwCl (wM ad cI cJ cZ σ) H → va_S (aM ad) s.heap H locs → lv_has ls 6 [(0, .ref (ad 0)), (1, .int v1), (2, .int v2), (3, .int v3), (4, .int v4), (5, .int v5)] → W p l e R s m args below meth c H locs 0 0 (MQ below (va_Qi (fun (r : Int32) (u : SS) => (r, u) = res) (fun u t => va_P D vwCl (wM ad cI cJ cZ u) t.heap) (aM ad)) args s 0 0 (aM ad)) (F0 m 22 ls [])) (v1 : Int32) (v2 : Int32) (v3 : Int32) (v4 : Int32) (v5 : Int32) (σ : SS) (hf : p_X8_callee_68 k22 v1 v2 v3 v4 v5 σ = some res) (H : Heap) (locs : List Loc) (ls : Array Slot) (hP : va_P D vwCl (wM ad cI cJ cZ σ) H) (hS : va_S (aM ad) s.heap H locs) (hl : lv_has ls 6 [(0, .ref (ad 0)), (1, .int v1), (2, .int v2), (3, .int v3), (4, .int v4), (5, .int v5)]) : W p l e R s m args below meth c H locs 0 0 (MQ below (va_Qi (fun (r : Int32) (u : SS) => (r, u) = res) (fun u t => va_P D vwCl (wM ad cI cJ cZ u) t.heap) (aM ad)) args s 0 0 (aM ad)) (F0 m 68 ls []) := by
  obtain ⟨hx, hb, hr, hml, hown, hts, hlk⟩ := id hm
  unfold p_X8_callee_68 at hf
  refine lv_iinc (v := (v5 + 1)) (lv' := [(5, .int (v5 + 1)), (0, .ref (ad 0)), (1, .int v1), (2, .int v2), (3, .int v3), (4, .int v4)]) hx hb dX8_callee_68 hl (k := 5) rfl rfl (by decide) rfl (fun ls hl => ?_)
  refine lv_goto (tgt := 22) hx hb dX8_callee_71 (by decide) ?_
  exact hk22 v1 v2 v3 v4 (v5 + 1) σ hf _ _ _ hP hS (lv_sub hl [1, 2, 3, 4, 5, 0] rfl)
def p_X8_callee_22 : Nat → Int32 → Int32 → Int32 → Int32 → Int32 → SS → Option (Int32 × SS)
  | 0, _, _, _, _, _, _ => none
  | n + 1, v1, v2, v3, v4, v5, σ => let k22 := p_X8_callee_22 n; if (σ.1 0 5) ≤ v5 then some ((-1), σ) else oi ((24 * v1) + v2) 1152 (oi ((48 * (σ.1 10 ((24 * v1) + v2).toNatClampNeg)) + v5) 7680 (if (σ.1 18 ((48 * (σ.1 10 ((24 * v1) + v2).toNatClampNeg)) + v5).toNatClampNeg) = 0 then p_X8_callee_68 k22 v1 v2 v3 v4 v5 σ else if v4 = v3 then some (v5, σ) else p_X8_callee_68 k22 v1 v2 v3 (v4 + 1) v5 σ))
set_option maxHeartbeats 4000000 in
set_option maxRecDepth 100000 in
theorem w_X8_callee_22 {p : Program} {l : Launch} {e : Env} {R : Room} {s : State} {m : MethodId} {args : Array Value} {below : List Frame} {meth : Method} {c : Code} {D : va_G} {ad : Nat → Nat} {cI cJ cZ : ClassId} {res : Int32 × SS} (hm : mx p s m args meth c cX8_callee 6 (some .int) wsX8_callee RX8) (hR : 7 ≤ R.frames ∧ 175 ≤ R.locals) (hK : va_K D vwCl (tyw cI cJ cZ) s) (hD : ∀ σ, va_D (aM ad) (wM ad cI cJ cZ σ)) : ∀ (n : Nat) (v1 : Int32) (v2 : Int32) (v3 : Int32) (v4 : Int32) (v5 : Int32) (σ : SS), p_X8_callee_22 n v1 v2 v3 v4 v5 σ = some res → ∀ (H : Heap) (locs : List Loc) (ls : Array Slot), va_P D vwCl (wM ad cI cJ cZ σ) H → va_S (aM ad) s.heap H locs → lv_has ls 6 [(0, .ref (ad 0)), (1, .int v1), (2, .int v2), (3, .int v3), (4, .int v4), (5, .int v5)] → W p l e R s m args below meth c H locs 0 0 (MQ below (va_Qi (fun (r : Int32) (u : SS) => (r, u) = res) (fun u t => va_P D vwCl (wM ad cI cJ cZ u) t.heap) (aM ad)) args s 0 0 (aM ad)) (F0 m 22 ls []) := by
  obtain ⟨hx, hb, hr, hml, hown, hts, hlk⟩ := id hm
  intro n
  induction n with
  | zero =>
    intro _ _ _ _ _ _ hf
    cases hf
  | succ n hk22 =>
    intro v1 v2 v3 v4 v5 σ hf H locs ls hP hS hl
    rw [p_X8_callee_22] at hf
    try dsimp only at hf
    refine lv_iload hx hb dX8_callee_22 (lv_at hl 5 rfl) ?_
    refine lv_aload_n hx hb dX8_callee_24 rfl (lv_at hl 0 rfl) ?_
    refine va_get (D := D) (ci := 7) (v := .int (σ.1 0 5)) (C := RX8) (T := TX8) (N := 50) hx hb hts in_X8_callee_X8 hown hK hP 0 (wM_0 _ _ _ _ _) rfl 5 (by decide) (hts (.fieldLink RX8 131 "CallGraphsModel" "members" "I") (List.mem_of_getElem? (i := 1) rfl)) (fun _ h9 => h9) (fM_0_5 _ _) dX8_callee_25 ?_
    refine lv_icmp_ge (tgt := 74) hx hb dX8_callee_28 (by decide) (fun c_28 => ?_) (fun c_28 => ?_)
    · rw [if_pos c_28] at hf
      refine lv_iconst (v := (-1)) hx hb dX8_callee_74 (by decide) ?_
      exact rt_i (wd := wM ad cI cJ cZ) hx hb hr hlk (Option.some.inj hf) hP hS dX8_callee_75
    · rw [if_neg c_28] at hf
      refine lv_aload_n hx hb dX8_callee_31 rfl (lv_at hl 0 rfl) ?_
      refine va_get (D := D) (ci := 7) (v := .ref (ad 18)) (C := RX8) (T := TX8) (N := 50) hx hb hts in_X8_callee_X8 hown hK hP 0 (wM_0 _ _ _ _ _) rfl 22 (by decide) (hts (.fieldLink RX8 62 "CallGraphsModel" "calls" "[Z") (List.mem_of_getElem? (i := 2) rfl)) (fun _ h9 => h9) (fM_0_22 _ _) dX8_callee_32 ?_
      refine lv_bipush (v := 48) hx hb dX8_callee_35 (by decide) ?_
      refine lv_aload_n hx hb dX8_callee_37 rfl (lv_at hl 0 rfl) ?_
      refine va_get (D := D) (ci := 7) (v := .ref (ad 10)) (C := RX8) (T := TX8) (N := 50) hx hb hts in_X8_callee_X8 hown hK hP 0 (wM_0 _ _ _ _ _) rfl 11 (by decide) (hts (.fieldLink RX8 38 "CallGraphsModel" "opAt" "[I") (List.mem_of_getElem? (i := 3) rfl)) (fun _ h9 => h9) (fM_0_11 _ _) dX8_callee_38 ?_
      refine lv_bipush (v := 24) hx hb dX8_callee_41 (by decide) ?_
      refine lv_iload_n hx hb dX8_callee_43 rfl (lv_at hl 1 rfl) ?_
      refine lv_imul hx hb dX8_callee_44 ?_
      refine lv_iload_n hx hb dX8_callee_45 rfl (lv_at hl 2 rfl) ?_
      refine lv_iadd hx hb dX8_callee_46 ?_
      obtain ⟨h_47, hf⟩ := oi_e hf
      refine va_iald hx hb hK hP 10 0 (wM_10 _ _ _ _ _) rfl h_47 dX8_callee_47 ?_
      refine lv_imul hx hb dX8_callee_48 ?_
      refine lv_iload hx hb dX8_callee_49 (lv_at hl 5 rfl) ?_
      refine lv_iadd hx hb dX8_callee_51 ?_
      obtain ⟨h_52, hf⟩ := oi_e hf
      refine va_zald hx hb hK hP 18 2 (wM_18 _ _ _ _ _) rfl h_52 dX8_callee_52 ?_
      refine lv_if_eq (tgt := 68) hx hb dX8_callee_53 (by decide) (fun c_53 => ?_) (fun c_53 => ?_)
      · rw [if_pos c_53] at hf
        exact w_X8_callee_68 hm hR hK hD (p_X8_callee_22 n) hk22 v1 v2 v3 v4 v5 σ hf _ _ _ hP hS (lv_sub hl [0, 1, 2, 3, 4, 5] rfl)
      · rw [if_neg c_53] at hf
        refine lv_iload hx hb dX8_callee_56 (lv_at hl 4 rfl) ?_
        refine lv_iload_n hx hb dX8_callee_58 rfl (lv_at hl 3 rfl) ?_
        refine lv_icmp_ne (tgt := 65) hx hb dX8_callee_59 (by decide) (fun c_59 => ?_) (fun c_59 => ?_)
        · rw [if_neg c_59] at hf
          refine lv_iinc (v := (v4 + 1)) (lv' := [(4, .int (v4 + 1)), (0, .ref (ad 0)), (1, .int v1), (2, .int v2), (3, .int v3), (5, .int v5)]) hx hb dX8_callee_65 hl (k := 4) rfl rfl (by decide) rfl (fun ls hl => ?_)
          exact w_X8_callee_68 hm hR hK hD (p_X8_callee_22 n) hk22 v1 v2 v3 (v4 + 1) v5 σ hf _ _ _ hP hS (lv_sub hl [1, 2, 3, 4, 0, 5] rfl)
        · rw [if_pos c_59] at hf
          refine lv_iload hx hb dX8_callee_62 (lv_at hl 5 rfl) ?_
          exact rt_i (wd := wM ad cI cJ cZ) hx hb hr hlk (Option.some.inj hf) hP hS dX8_callee_64
def p_X8_callee_0 (v1 : Int32) (v2 : Int32) (v3 : Int32) (σ : SS) : Option (Int32 × SS) := oc (p_X8_isOp_0 σ v1 v2) (fun r_3 => if r_3 = 0 then some ((-101), σ) else oc (p_X8_freshen_0 σ) (fun r_13 => p_X8_callee_22 100000 v1 v2 v3 0 0 r_13))
set_option maxHeartbeats 4000000 in
set_option maxRecDepth 100000 in
theorem w_X8_callee_0 {p : Program} {l : Launch} {e : Env} {R : Room} {s : State} {m : MethodId} {args : Array Value} {below : List Frame} {meth : Method} {c : Code} {D : va_G} {ad : Nat → Nat} {cI cJ cZ : ClassId} {res : Int32 × SS} (hm : mx p s m args meth c cX8_callee 6 (some .int) wsX8_callee RX8) (hR : 7 ≤ R.frames ∧ 175 ≤ R.locals) (hK : va_K D vwCl (tyw cI cJ cZ) s) (hD : ∀ σ, va_D (aM ad) (wM ad cI cJ cZ σ)) (v1 : Int32) (v2 : Int32) (v3 : Int32) (σ : SS) (hf : p_X8_callee_0 v1 v2 v3 σ = some res) (H : Heap) (locs : List Loc) (ls : Array Slot) (hP : va_P D vwCl (wM ad cI cJ cZ σ) H) (hS : va_S (aM ad) s.heap H locs) (hl : lv_has ls 6 [(0, .ref (ad 0)), (1, .int v1), (2, .int v2), (3, .int v3)]) : W p l e R s m args below meth c H locs 0 0 (MQ below (va_Qi (fun (r : Int32) (u : SS) => (r, u) = res) (fun u t => va_P D vwCl (wM ad cI cJ cZ u) t.heap) (aM ad)) args s 0 0 (aM ad)) (F0 m 0 ls []) := by
  obtain ⟨hx, hb, hr, hml, hown, hts, hlk⟩ := id hm
  unfold p_X8_callee_0 at hf
  refine lv_aload_n hx hb dX8_callee_0 rfl (lv_at hl 0 rfl) ?_
  refine lv_iload_n hx hb dX8_callee_1 rfl (lv_at hl 1 rfl) ?_
  refine lv_iload_n hx hb dX8_callee_2 rfl (lv_at hl 2 rfl) ?_
  obtain ⟨r_3, hg_3, hf⟩ := oc_e hf
  refine mV_ri (wd := wM ad cI cJ cZ) (σ := σ) (As := [.int v1, .int v2]) (rest := []) ⟨hx, hb, hml, hown, hts⟩ hK hP hD hS (c_X8_isOp l D ad cI cJ cZ σ v1 v2 hg_3) (cwV 2 hts gX8_callee_X8_isOp rfl rfl rfl hd_X8_isOp ⟨Nat.le_trans (Nat.le_of_ble_eq_true rfl) hR.1, Nat.le_trans (Nat.le_of_ble_eq_true rfl) hR.2⟩) rfl (wM_0 _ _ _ _ _) rfl hl.1 rfl (Nat.le_of_ble_eq_true rfl) dX8_callee_3 (fun H locs hP hS => ?_)
  refine lv_if_ne (tgt := 12) hx hb dX8_callee_6 (by decide) (fun c_6 => ?_) (fun c_6 => ?_)
  · rw [if_neg c_6] at hf
    refine lv_aload_n hx hb dX8_callee_12 rfl (lv_at hl 0 rfl) ?_
    obtain ⟨r_13, hg_13, hf⟩ := oc_e hf
    refine mV_wv (wd := wM ad cI cJ cZ) (σ := σ) (As := []) (rest := []) ⟨hx, hb, hml, hown, hts⟩ hK hP hD hS (c_X8_freshen l D ad cI cJ cZ σ hg_13) (cwV 0 hts gX8_callee_X8_freshen rfl rfl rfl hd_X8_freshen ⟨Nat.le_trans (Nat.le_of_ble_eq_true rfl) hR.1, Nat.le_trans (Nat.le_of_ble_eq_true rfl) hR.2⟩) rfl (wM_0 _ _ _ _ _) rfl hl.1 rfl (Nat.le_of_ble_eq_true rfl) dX8_callee_13 (fun H locs hP hS => ?_)
    refine lv_iconst (v := 0) hx hb dX8_callee_16 (by decide) ?_
    refine lv_istore (lv' := [(4, .int 0), (0, .ref (ad 0)), (1, .int v1), (2, .int v2), (3, .int v3)]) hx hb dX8_callee_17 hl (by decide) rfl (fun ls hl => ?_)
    refine lv_iconst (v := 0) hx hb dX8_callee_19 (by decide) ?_
    refine lv_istore (lv' := [(5, .int 0), (4, .int 0), (0, .ref (ad 0)), (1, .int v1), (2, .int v2), (3, .int v3)]) hx hb dX8_callee_20 hl (by decide) rfl (fun ls hl => ?_)
    exact w_X8_callee_22 hm hR hK hD 100000 v1 v2 v3 0 0 r_13 hf _ _ _ hP hS (lv_sub hl [2, 3, 4, 5, 1, 0] rfl)
  · rw [if_pos c_6] at hf
    refine lv_bipush (v := (-101)) hx hb dX8_callee_9 (by decide) ?_
    exact rt_i (wd := wM ad cI cJ cZ) hx hb hr hlk (Option.some.inj hf) hP hS dX8_callee_11
theorem hd_X8_callee : yX8_callee.cls = RX8 ∧ yX8_callee.cls ≠ "java/lang/invoke/MethodHandle" ∧ yX8_callee.cls ≠ "java/lang/invoke/VarHandle" ∧ (parseMethodDescriptor yX8_callee.desc).map (fun d => d.parameters.length) = some 3 := by decide +kernel
set_option maxHeartbeats 4000000 in
set_option maxRecDepth 100000 in
theorem c_X8_callee (l : Launch) (D : va_G) (ad : Nat → Nat) (cI cJ cZ : ClassId) (σ : SS) (v1 : Int32) (v2 : Int32) (v3 : Int32) {res : Int32 × SS} (hf : p_X8_callee_0 v1 v2 v3 σ = some res) : Met l yX8_callee wsX8_callee ({ frames := 7, cells := 0, slots := 0, locals := 175 } : Room) (PW D (tyw cI cJ cZ) (wM ad cI cJ cZ σ) [.ref (ad 0), .int v1, .int v2, .int v3]) (va_Qi (fun (r : Int32) (u : SS) => (r, u) = res) (fun u t => va_P D vwCl (wM ad cI cJ cZ u) t.heap) (aM ad)) 0 0 (aM ad) := by
  refine Met.ofW (cc := cX8_callee) (maxL := 6) (ret := (some .int)) (by decide) rfl ?_
  intro p e s m args below meth c s₁ B hml hv
  obtain ⟨rfl, hP, hK, hD0⟩ := hv
  have hD : ∀ σ, va_D (aM ad) (wM ad cI cJ cZ σ) := fun σ => wd_D hD0 (wM_map _ _ _ _ _) (wM_map _ _ _ _ _)
  have hm : mx p s m _ meth c cX8_callee 6 (some .int) wsX8_callee RX8 := ⟨B.exec, B.bytes, B.returns, hml, findClass_of_methodNamed B.named, atoms_spec (ws := wsX8_callee) B.pre, B.notSynchronized⟩
  have hl := lv_entry ([.ref (ad 0), .int v1, .int v2, .int v3]) (n := 6) (Nat.le_of_ble_eq_true rfl)
  rw [lg_entry_eq]
  generalize (lg_sl ([.ref (ad 0), .int v1, .int v2, .int v3]) ++ List.replicate (6 - (lg_sl ([.ref (ad 0), .int v1, .int v2, .int v3])).length) Slot.unset).toArray = ls at hl ⊢
  exact w_X8_callee_0 hm ⟨Nat.le_refl _, Nat.le_refl _⟩ hK hD v1 v2 v3 σ hf _ _ _ hP va_S.rf hl
/-! CallGraphsModel.faults(III)I -/
theorem in_X8_faults_X8 : ∀ w ∈ u_ws RX8 TX8 50, w ∈ wsX8_faults := fun w h => List.mem_cons_of_mem _ (List.mem_append_right _ h)
def p_X8_faults_54 (t0 : Int32) (σ : SS) : Option (Int32 × SS) := some (t0, σ)
set_option maxHeartbeats 4000000 in
set_option maxRecDepth 100000 in
theorem w_X8_faults_54 {p : Program} {l : Launch} {e : Env} {R : Room} {s : State} {m : MethodId} {args : Array Value} {below : List Frame} {meth : Method} {c : Code} {D : va_G} {ad : Nat → Nat} {cI cJ cZ : ClassId} {res : Int32 × SS} (hm : mx p s m args meth c cX8_faults 4 (some .int) wsX8_faults RX8) (hR : 7 ≤ R.frames ∧ 175 ≤ R.locals) (hK : va_K D vwCl (tyw cI cJ cZ) s) (hD : ∀ σ, va_D (aM ad) (wM ad cI cJ cZ σ)) (t0 : Int32) (σ : SS) (hf : p_X8_faults_54 t0 σ = some res) (H : Heap) (locs : List Loc) (ls : Array Slot) (hP : va_P D vwCl (wM ad cI cJ cZ σ) H) (hS : va_S (aM ad) s.heap H locs) (hl : lv_has ls 4 []) : W p l e R s m args below meth c H locs 0 0 (MQ below (va_Qi (fun (r : Int32) (u : SS) => (r, u) = res) (fun u t => va_P D vwCl (wM ad cI cJ cZ u) t.heap) (aM ad)) args s 0 0 (aM ad)) (F0 m 54 ls [.int t0]) := by
  obtain ⟨hx, hb, hr, hml, hown, hts, hlk⟩ := id hm
  unfold p_X8_faults_54 at hf
  exact rt_i (wd := wM ad cI cJ cZ) hx hb hr hlk (Option.some.inj hf) hP hS dX8_faults_54
def p_X8_faults_0 (v1 : Int32) (v2 : Int32) (v3 : Int32) (σ : SS) : Option (Int32 × SS) := oc (p_X8_isOp_0 σ v1 v2) (fun r_3 => if r_3 = 0 then some ((-101), σ) else oc (p_X8_freshen_0 σ) (fun r_13 => oc (p_X8_in_0 v3 (-5) (-2)) (fun r_21 => if r_21 = 0 then p_X8_faults_54 (-102) r_13 else oi ((24 * v1) + v2) 1152 (oi (((4 * (r_13.1 10 ((24 * v1) + v2).toNatClampNeg)) - 2) - v3) 640 (p_X8_faults_54 (r_13.1 19 (((4 * (r_13.1 10 ((24 * v1) + v2).toNatClampNeg)) - 2) - v3).toNatClampNeg) r_13)))))
set_option maxHeartbeats 4000000 in
set_option maxRecDepth 100000 in
theorem w_X8_faults_0 {p : Program} {l : Launch} {e : Env} {R : Room} {s : State} {m : MethodId} {args : Array Value} {below : List Frame} {meth : Method} {c : Code} {D : va_G} {ad : Nat → Nat} {cI cJ cZ : ClassId} {res : Int32 × SS} (hm : mx p s m args meth c cX8_faults 4 (some .int) wsX8_faults RX8) (hR : 7 ≤ R.frames ∧ 175 ≤ R.locals) (hK : va_K D vwCl (tyw cI cJ cZ) s) (hD : ∀ σ, va_D (aM ad) (wM ad cI cJ cZ σ)) (v1 : Int32) (v2 : Int32) (v3 : Int32) (σ : SS) (hf : p_X8_faults_0 v1 v2 v3 σ = some res) (H : Heap) (locs : List Loc) (ls : Array Slot) (hP : va_P D vwCl (wM ad cI cJ cZ σ) H) (hS : va_S (aM ad) s.heap H locs) (hl : lv_has ls 4 [(0, .ref (ad 0)), (1, .int v1), (2, .int v2), (3, .int v3)]) : W p l e R s m args below meth c H locs 0 0 (MQ below (va_Qi (fun (r : Int32) (u : SS) => (r, u) = res) (fun u t => va_P D vwCl (wM ad cI cJ cZ u) t.heap) (aM ad)) args s 0 0 (aM ad)) (F0 m 0 ls []) := by
  obtain ⟨hx, hb, hr, hml, hown, hts, hlk⟩ := id hm
  unfold p_X8_faults_0 at hf
  refine lv_aload_n hx hb dX8_faults_0 rfl (lv_at hl 0 rfl) ?_
  refine lv_iload_n hx hb dX8_faults_1 rfl (lv_at hl 1 rfl) ?_
  refine lv_iload_n hx hb dX8_faults_2 rfl (lv_at hl 2 rfl) ?_
  obtain ⟨r_3, hg_3, hf⟩ := oc_e hf
  refine mV_ri (wd := wM ad cI cJ cZ) (σ := σ) (As := [.int v1, .int v2]) (rest := []) ⟨hx, hb, hml, hown, hts⟩ hK hP hD hS (c_X8_isOp l D ad cI cJ cZ σ v1 v2 hg_3) (cwV 2 hts gX8_faults_X8_isOp rfl rfl rfl hd_X8_isOp ⟨Nat.le_trans (Nat.le_of_ble_eq_true rfl) hR.1, Nat.le_trans (Nat.le_of_ble_eq_true rfl) hR.2⟩) rfl (wM_0 _ _ _ _ _) rfl hl.1 rfl (Nat.le_of_ble_eq_true rfl) dX8_faults_3 (fun H locs hP hS => ?_)
  refine lv_if_ne (tgt := 12) hx hb dX8_faults_6 (by decide) (fun c_6 => ?_) (fun c_6 => ?_)
  · rw [if_neg c_6] at hf
    refine lv_aload_n hx hb dX8_faults_12 rfl (lv_at hl 0 rfl) ?_
    obtain ⟨r_13, hg_13, hf⟩ := oc_e hf
    refine mV_wv (wd := wM ad cI cJ cZ) (σ := σ) (As := []) (rest := []) ⟨hx, hb, hml, hown, hts⟩ hK hP hD hS (c_X8_freshen l D ad cI cJ cZ σ hg_13) (cwV 0 hts gX8_faults_X8_freshen rfl rfl rfl hd_X8_freshen ⟨Nat.le_trans (Nat.le_of_ble_eq_true rfl) hR.1, Nat.le_trans (Nat.le_of_ble_eq_true rfl) hR.2⟩) rfl (wM_0 _ _ _ _ _) rfl hl.1 rfl (Nat.le_of_ble_eq_true rfl) dX8_faults_13 (fun H locs hP hS => ?_)
    refine lv_iload_n hx hb dX8_faults_16 rfl (lv_at hl 3 rfl) ?_
    refine lv_bipush (v := (-5)) hx hb dX8_faults_17 (by decide) ?_
    refine lv_bipush (v := (-2)) hx hb dX8_faults_19 (by decide) ?_
    obtain ⟨r_21, hg_21, hf⟩ := oc_e hf
    refine mS_i (D := D) (As := [.int v3, .int (-5), .int (-2)]) (rest := []) ⟨hx, hb, hml, hown, hts⟩ hP hS (c_X8_in l v3 (-5) (-2) hg_21) (va_cwS 3 hts gX8_faults_X8_in rfl rfl rfl hd_X8_in ⟨Nat.le_trans (Nat.le_of_ble_eq_true rfl) hR.1, Nat.le_trans (Nat.le_of_ble_eq_true rfl) hR.2⟩) rfl hl.1 rfl (Nat.le_of_ble_eq_true rfl) dX8_faults_21 (fun H locs hP hS => ?_)
    refine lv_if_eq (tgt := 52) hx hb dX8_faults_24 (by decide) (fun c_24 => ?_) (fun c_24 => ?_)
    · rw [if_pos c_24] at hf
      refine lv_bipush (v := (-102)) hx hb dX8_faults_52 (by decide) ?_
      exact w_X8_faults_54 hm hR hK hD (-102) r_13 hf _ _ _ hP hS (lv_sub hl [] rfl)
    · rw [if_neg c_24] at hf
      refine lv_aload_n hx hb dX8_faults_27 rfl (lv_at hl 0 rfl) ?_
      refine va_get (D := D) (ci := 7) (v := .ref (ad 19)) (C := RX8) (T := TX8) (N := 50) hx hb hts in_X8_faults_X8 hown hK hP 0 (wM_0 _ _ _ _ _) rfl 23 (by decide) (hts (.fieldLink RX8 65 "CallGraphsModel" "faultMany" "[I") (List.mem_of_getElem? (i := 1) rfl)) (fun _ h9 => h9) (fM_0_23 _ _) dX8_faults_28 ?_
      refine lv_iconst (v := 4) hx hb dX8_faults_31 (by decide) ?_
      refine lv_aload_n hx hb dX8_faults_32 rfl (lv_at hl 0 rfl) ?_
      refine va_get (D := D) (ci := 7) (v := .ref (ad 10)) (C := RX8) (T := TX8) (N := 50) hx hb hts in_X8_faults_X8 hown hK hP 0 (wM_0 _ _ _ _ _) rfl 11 (by decide) (hts (.fieldLink RX8 38 "CallGraphsModel" "opAt" "[I") (List.mem_of_getElem? (i := 2) rfl)) (fun _ h9 => h9) (fM_0_11 _ _) dX8_faults_33 ?_
      refine lv_bipush (v := 24) hx hb dX8_faults_36 (by decide) ?_
      refine lv_iload_n hx hb dX8_faults_38 rfl (lv_at hl 1 rfl) ?_
      refine lv_imul hx hb dX8_faults_39 ?_
      refine lv_iload_n hx hb dX8_faults_40 rfl (lv_at hl 2 rfl) ?_
      refine lv_iadd hx hb dX8_faults_41 ?_
      obtain ⟨h_42, hf⟩ := oi_e hf
      refine va_iald hx hb hK hP 10 0 (wM_10 _ _ _ _ _) rfl h_42 dX8_faults_42 ?_
      refine lv_imul hx hb dX8_faults_43 ?_
      refine lv_iconst (v := 2) hx hb dX8_faults_44 (by decide) ?_
      refine lv_isub hx hb dX8_faults_45 ?_
      refine lv_iload_n hx hb dX8_faults_46 rfl (lv_at hl 3 rfl) ?_
      refine lv_isub hx hb dX8_faults_47 ?_
      obtain ⟨h_48, hf⟩ := oi_e hf
      refine va_iald hx hb hK hP 19 0 (wM_19 _ _ _ _ _) rfl h_48 dX8_faults_48 ?_
      refine lv_goto (tgt := 54) hx hb dX8_faults_49 (by decide) ?_
      exact w_X8_faults_54 hm hR hK hD (r_13.1 19 (((4 * (r_13.1 10 ((24 * v1) + v2).toNatClampNeg)) - 2) - v3).toNatClampNeg) r_13 hf _ _ _ hP hS (lv_sub hl [] rfl)
  · rw [if_pos c_6] at hf
    refine lv_bipush (v := (-101)) hx hb dX8_faults_9 (by decide) ?_
    exact rt_i (wd := wM ad cI cJ cZ) hx hb hr hlk (Option.some.inj hf) hP hS dX8_faults_11
theorem hd_X8_faults : yX8_faults.cls = RX8 ∧ yX8_faults.cls ≠ "java/lang/invoke/MethodHandle" ∧ yX8_faults.cls ≠ "java/lang/invoke/VarHandle" ∧ (parseMethodDescriptor yX8_faults.desc).map (fun d => d.parameters.length) = some 3 := by decide +kernel
set_option maxHeartbeats 4000000 in
set_option maxRecDepth 100000 in
theorem c_X8_faults (l : Launch) (D : va_G) (ad : Nat → Nat) (cI cJ cZ : ClassId) (σ : SS) (v1 : Int32) (v2 : Int32) (v3 : Int32) {res : Int32 × SS} (hf : p_X8_faults_0 v1 v2 v3 σ = some res) : Met l yX8_faults wsX8_faults ({ frames := 7, cells := 0, slots := 0, locals := 175 } : Room) (PW D (tyw cI cJ cZ) (wM ad cI cJ cZ σ) [.ref (ad 0), .int v1, .int v2, .int v3]) (va_Qi (fun (r : Int32) (u : SS) => (r, u) = res) (fun u t => va_P D vwCl (wM ad cI cJ cZ u) t.heap) (aM ad)) 0 0 (aM ad) := by
  refine Met.ofW (cc := cX8_faults) (maxL := 4) (ret := (some .int)) (by decide) rfl ?_
  intro p e s m args below meth c s₁ B hml hv
  obtain ⟨rfl, hP, hK, hD0⟩ := hv
  have hD : ∀ σ, va_D (aM ad) (wM ad cI cJ cZ σ) := fun σ => wd_D hD0 (wM_map _ _ _ _ _) (wM_map _ _ _ _ _)
  have hm : mx p s m _ meth c cX8_faults 4 (some .int) wsX8_faults RX8 := ⟨B.exec, B.bytes, B.returns, hml, findClass_of_methodNamed B.named, atoms_spec (ws := wsX8_faults) B.pre, B.notSynchronized⟩
  have hl := lv_entry ([.ref (ad 0), .int v1, .int v2, .int v3]) (n := 4) (Nat.le_of_ble_eq_true rfl)
  rw [lg_entry_eq]
  generalize (lg_sl ([.ref (ad 0), .int v1, .int v2, .int v3]) ++ List.replicate (4 - (lg_sl ([.ref (ad 0), .int v1, .int v2, .int v3])).length) Slot.unset).toArray = ls at hl ⊢
  exact w_X8_faults_0 hm ⟨Nat.le_refl _, Nat.le_refl _⟩ hK hD v1 v2 v3 σ hf _ _ _ hP va_S.rf hl
/-! CallGraphsModel.caller(II)I -/
theorem in_X8_caller_X8 : ∀ w ∈ u_ws RX8 TX8 50, w ∈ wsX8_caller := fun w h => List.mem_cons_of_mem _ (List.mem_append_right _ h)
def p_X8_caller_46 (k17 : Int32 → Int32 → Int32 → SS → Option (Int32 × SS)) (v1 : Int32) (v2 : Int32) (v3 : Int32) (σ : SS) : Option (Int32 × SS) := k17 v1 v2 (v3 + 1) σ
set_option maxHeartbeats 4000000 in
set_option maxRecDepth 100000 in
theorem w_X8_caller_46 {p : Program} {l : Launch} {e : Env} {R : Room} {s : State} {m : MethodId} {args : Array Value} {below : List Frame} {meth : Method} {c : Code} {D : va_G} {ad : Nat → Nat} {cI cJ cZ : ClassId} {res : Int32 × SS} (hm : mx p s m args meth c cX8_caller 4 (some .int) wsX8_caller RX8) (hR : 7 ≤ R.frames ∧ 175 ≤ R.locals) (hK : va_K D vwCl (tyw cI cJ cZ) s) (hD : ∀ σ, va_D (aM ad) (wM ad cI cJ cZ σ)) (k17 : Int32 → Int32 → Int32 → SS → Option (Int32 × SS)) (hk17 : ∀ (v1 : Int32) (v2 : Int32) (v3 : Int32) (σ : SS), k17 v1 v2 v3 σ = some res → ∀ (H : Heap) (locs : List Loc) (ls : Array Slot), va_P D vwCl (wM ad cI cJ cZ σ) H → va_S (aM ad) s.heap H locs → lv_has ls 4 [(0, .ref (ad 0)), (1, .int v1), (2, .int v2), (3, .int v3)] → W p l e R s m args below meth c H locs 0 0 (MQ below (va_Qi (fun (r : Int32) (u : SS) => (r, u) = res) (fun u t => va_P D vwCl (wM ad cI cJ cZ u) t.heap) (aM ad)) args s 0 0 (aM ad)) (F0 m 17 ls [])) (v1 : Int32) (v2 : Int32) (v3 : Int32) (σ : SS) (hf : p_X8_caller_46 k17 v1 v2 v3 σ = some res) (H : Heap) (locs : List Loc) (ls : Array Slot) (hP : va_P D vwCl (wM ad cI cJ cZ σ) H) (hS : va_S (aM ad) s.heap H locs) (hl : lv_has ls 4 [(0, .ref (ad 0)), (1, .int v1), (2, .int v2), (3, .int v3)]) : W p l e R s m args below meth c H locs 0 0 (MQ below (va_Qi (fun (r : Int32) (u : SS) => (r, u) = res) (fun u t => va_P D vwCl (wM ad cI cJ cZ u) t.heap) (aM ad)) args s 0 0 (aM ad)) (F0 m 46 ls []) := by
  obtain ⟨hx, hb, hr, hml, hown, hts, hlk⟩ := id hm
  unfold p_X8_caller_46 at hf
  refine lv_iinc (v := (v3 + 1)) (lv' := [(3, .int (v3 + 1)), (0, .ref (ad 0)), (1, .int v1), (2, .int v2)]) hx hb dX8_caller_46 hl (k := 3) rfl rfl (by decide) rfl (fun ls hl => ?_)
  refine lv_goto (tgt := 17) hx hb dX8_caller_49 (by decide) ?_
  exact hk17 v1 v2 (v3 + 1) σ hf _ _ _ hP hS (lv_sub hl [1, 2, 3, 0] rfl)
def p_X8_caller_17 : Nat → Int32 → Int32 → Int32 → SS → Option (Int32 × SS)
  | 0, _, _, _, _ => none
  | n + 1, v1, v2, v3, σ => let k17 := p_X8_caller_17 n; if (σ.1 0 5) ≤ v3 then some ((-1), σ) else oc (p_X8_isCallee_0 σ v3 v1) (fun r_28 => if r_28 = 0 then p_X8_caller_46 k17 v1 v2 v3 σ else oc (p_X8_callersOf_0 σ v1 v3) (fun r_37 => if r_37 = v2 then some (v3, σ) else p_X8_caller_46 k17 v1 v2 v3 σ))
set_option maxHeartbeats 4000000 in
set_option maxRecDepth 100000 in
theorem w_X8_caller_17 {p : Program} {l : Launch} {e : Env} {R : Room} {s : State} {m : MethodId} {args : Array Value} {below : List Frame} {meth : Method} {c : Code} {D : va_G} {ad : Nat → Nat} {cI cJ cZ : ClassId} {res : Int32 × SS} (hm : mx p s m args meth c cX8_caller 4 (some .int) wsX8_caller RX8) (hR : 7 ≤ R.frames ∧ 175 ≤ R.locals) (hK : va_K D vwCl (tyw cI cJ cZ) s) (hD : ∀ σ, va_D (aM ad) (wM ad cI cJ cZ σ)) : ∀ (n : Nat) (v1 : Int32) (v2 : Int32) (v3 : Int32) (σ : SS), p_X8_caller_17 n v1 v2 v3 σ = some res → ∀ (H : Heap) (locs : List Loc) (ls : Array Slot), va_P D vwCl (wM ad cI cJ cZ σ) H → va_S (aM ad) s.heap H locs → lv_has ls 4 [(0, .ref (ad 0)), (1, .int v1), (2, .int v2), (3, .int v3)] → W p l e R s m args below meth c H locs 0 0 (MQ below (va_Qi (fun (r : Int32) (u : SS) => (r, u) = res) (fun u t => va_P D vwCl (wM ad cI cJ cZ u) t.heap) (aM ad)) args s 0 0 (aM ad)) (F0 m 17 ls []) := by
  obtain ⟨hx, hb, hr, hml, hown, hts, hlk⟩ := id hm
  intro n
  induction n with
  | zero =>
    intro _ _ _ _ hf
    cases hf
  | succ n hk17 =>
    intro v1 v2 v3 σ hf H locs ls hP hS hl
    rw [p_X8_caller_17] at hf
    try dsimp only at hf
    refine lv_iload_n hx hb dX8_caller_17 rfl (lv_at hl 3 rfl) ?_
    refine lv_aload_n hx hb dX8_caller_18 rfl (lv_at hl 0 rfl) ?_
    refine va_get (D := D) (ci := 7) (v := .int (σ.1 0 5)) (C := RX8) (T := TX8) (N := 50) hx hb hts in_X8_caller_X8 hown hK hP 0 (wM_0 _ _ _ _ _) rfl 5 (by decide) (hts (.fieldLink RX8 131 "CallGraphsModel" "members" "I") (List.mem_of_getElem? (i := 1) rfl)) (fun _ h9 => h9) (fM_0_5 _ _) dX8_caller_19 ?_
    refine lv_icmp_ge (tgt := 52) hx hb dX8_caller_22 (by decide) (fun c_22 => ?_) (fun c_22 => ?_)
    · rw [if_pos c_22] at hf
      refine lv_iconst (v := (-1)) hx hb dX8_caller_52 (by decide) ?_
      exact rt_i (wd := wM ad cI cJ cZ) hx hb hr hlk (Option.some.inj hf) hP hS dX8_caller_53
    · rw [if_neg c_22] at hf
      refine lv_aload_n hx hb dX8_caller_25 rfl (lv_at hl 0 rfl) ?_
      refine lv_iload_n hx hb dX8_caller_26 rfl (lv_at hl 3 rfl) ?_
      refine lv_iload_n hx hb dX8_caller_27 rfl (lv_at hl 1 rfl) ?_
      obtain ⟨r_28, hg_28, hf⟩ := oc_e hf
      refine mV_ri (wd := wM ad cI cJ cZ) (σ := σ) (As := [.int v3, .int v1]) (rest := []) ⟨hx, hb, hml, hown, hts⟩ hK hP hD hS (c_X8_isCallee l D ad cI cJ cZ σ v3 v1 hg_28) (cwV 2 hts gX8_caller_X8_isCallee rfl rfl rfl hd_X8_isCallee ⟨Nat.le_trans (Nat.le_of_ble_eq_true rfl) hR.1, Nat.le_trans (Nat.le_of_ble_eq_true rfl) hR.2⟩) rfl (wM_0 _ _ _ _ _) rfl hl.1 rfl (Nat.le_of_ble_eq_true rfl) dX8_caller_28 (fun H locs hP hS => ?_)
      refine lv_if_eq (tgt := 46) hx hb dX8_caller_31 (by decide) (fun c_31 => ?_) (fun c_31 => ?_)
      · rw [if_pos c_31] at hf
        exact w_X8_caller_46 hm hR hK hD (p_X8_caller_17 n) hk17 v1 v2 v3 σ hf _ _ _ hP hS (lv_sub hl [0, 1, 2, 3] rfl)
      · rw [if_neg c_31] at hf
        refine lv_aload_n hx hb dX8_caller_34 rfl (lv_at hl 0 rfl) ?_
        refine lv_iload_n hx hb dX8_caller_35 rfl (lv_at hl 1 rfl) ?_
        refine lv_iload_n hx hb dX8_caller_36 rfl (lv_at hl 3 rfl) ?_
        obtain ⟨r_37, hg_37, hf⟩ := oc_e hf
        refine mV_ri (wd := wM ad cI cJ cZ) (σ := σ) (As := [.int v1, .int v3]) (rest := []) ⟨hx, hb, hml, hown, hts⟩ hK hP hD hS (c_X8_callersOf l D ad cI cJ cZ σ v1 v3 hg_37) (cwV 2 hts gX8_caller_X8_callersOf rfl rfl rfl hd_X8_callersOf ⟨Nat.le_trans (Nat.le_of_ble_eq_true rfl) hR.1, Nat.le_trans (Nat.le_of_ble_eq_true rfl) hR.2⟩) rfl (wM_0 _ _ _ _ _) rfl hl.1 rfl (Nat.le_of_ble_eq_true rfl) dX8_caller_37 (fun H locs hP hS => ?_)
        refine lv_iload_n hx hb dX8_caller_40 rfl (lv_at hl 2 rfl) ?_
        refine lv_icmp_ne (tgt := 46) hx hb dX8_caller_41 (by decide) (fun c_41 => ?_) (fun c_41 => ?_)
        · rw [if_neg c_41] at hf
          exact w_X8_caller_46 hm hR hK hD (p_X8_caller_17 n) hk17 v1 v2 v3 σ hf _ _ _ hP hS (lv_sub hl [0, 1, 2, 3] rfl)
        · rw [if_pos c_41] at hf
          refine lv_iload_n hx hb dX8_caller_44 rfl (lv_at hl 3 rfl) ?_
          exact rt_i (wd := wM ad cI cJ cZ) hx hb hr hlk (Option.some.inj hf) hP hS dX8_caller_45
def p_X8_caller_0 (v1 : Int32) (v2 : Int32) (σ : SS) : Option (Int32 × SS) := oc (p_X8_isMember_0 σ v1) (fun r_2 => if r_2 = 0 then some ((-101), σ) else oc (p_X8_freshen_0 σ) (fun r_12 => p_X8_caller_17 100000 v1 v2 0 r_12))
set_option maxHeartbeats 4000000 in
set_option maxRecDepth 100000 in
theorem w_X8_caller_0 {p : Program} {l : Launch} {e : Env} {R : Room} {s : State} {m : MethodId} {args : Array Value} {below : List Frame} {meth : Method} {c : Code} {D : va_G} {ad : Nat → Nat} {cI cJ cZ : ClassId} {res : Int32 × SS} (hm : mx p s m args meth c cX8_caller 4 (some .int) wsX8_caller RX8) (hR : 7 ≤ R.frames ∧ 175 ≤ R.locals) (hK : va_K D vwCl (tyw cI cJ cZ) s) (hD : ∀ σ, va_D (aM ad) (wM ad cI cJ cZ σ)) (v1 : Int32) (v2 : Int32) (σ : SS) (hf : p_X8_caller_0 v1 v2 σ = some res) (H : Heap) (locs : List Loc) (ls : Array Slot) (hP : va_P D vwCl (wM ad cI cJ cZ σ) H) (hS : va_S (aM ad) s.heap H locs) (hl : lv_has ls 4 [(0, .ref (ad 0)), (1, .int v1), (2, .int v2)]) : W p l e R s m args below meth c H locs 0 0 (MQ below (va_Qi (fun (r : Int32) (u : SS) => (r, u) = res) (fun u t => va_P D vwCl (wM ad cI cJ cZ u) t.heap) (aM ad)) args s 0 0 (aM ad)) (F0 m 0 ls []) := by
  obtain ⟨hx, hb, hr, hml, hown, hts, hlk⟩ := id hm
  unfold p_X8_caller_0 at hf
  refine lv_aload_n hx hb dX8_caller_0 rfl (lv_at hl 0 rfl) ?_
  refine lv_iload_n hx hb dX8_caller_1 rfl (lv_at hl 1 rfl) ?_
  obtain ⟨r_2, hg_2, hf⟩ := oc_e hf
  refine mV_ri (wd := wM ad cI cJ cZ) (σ := σ) (As := [.int v1]) (rest := []) ⟨hx, hb, hml, hown, hts⟩ hK hP hD hS (c_X8_isMember l D ad cI cJ cZ σ v1 hg_2) (cwV 1 hts gX8_caller_X8_isMember rfl rfl rfl hd_X8_isMember ⟨Nat.le_trans (Nat.le_of_ble_eq_true rfl) hR.1, Nat.le_trans (Nat.le_of_ble_eq_true rfl) hR.2⟩) rfl (wM_0 _ _ _ _ _) rfl hl.1 rfl (Nat.le_of_ble_eq_true rfl) dX8_caller_2 (fun H locs hP hS => ?_)
  refine lv_if_ne (tgt := 11) hx hb dX8_caller_5 (by decide) (fun c_5 => ?_) (fun c_5 => ?_)
  · rw [if_neg c_5] at hf
    refine lv_aload_n hx hb dX8_caller_11 rfl (lv_at hl 0 rfl) ?_
    obtain ⟨r_12, hg_12, hf⟩ := oc_e hf
    refine mV_wv (wd := wM ad cI cJ cZ) (σ := σ) (As := []) (rest := []) ⟨hx, hb, hml, hown, hts⟩ hK hP hD hS (c_X8_freshen l D ad cI cJ cZ σ hg_12) (cwV 0 hts gX8_caller_X8_freshen rfl rfl rfl hd_X8_freshen ⟨Nat.le_trans (Nat.le_of_ble_eq_true rfl) hR.1, Nat.le_trans (Nat.le_of_ble_eq_true rfl) hR.2⟩) rfl (wM_0 _ _ _ _ _) rfl hl.1 rfl (Nat.le_of_ble_eq_true rfl) dX8_caller_12 (fun H locs hP hS => ?_)
    refine lv_iconst (v := 0) hx hb dX8_caller_15 (by decide) ?_
    refine lv_istore_n (lv' := [(3, .int 0), (0, .ref (ad 0)), (1, .int v1), (2, .int v2)]) hx hb dX8_caller_16 rfl hl (by decide) rfl (fun ls hl => ?_)
    exact w_X8_caller_17 hm hR hK hD 100000 v1 v2 0 r_12 hf _ _ _ hP hS (lv_sub hl [1, 2, 3, 0] rfl)
  · rw [if_pos c_5] at hf
    refine lv_bipush (v := (-101)) hx hb dX8_caller_8 (by decide) ?_
    exact rt_i (wd := wM ad cI cJ cZ) hx hb hr hlk (Option.some.inj hf) hP hS dX8_caller_10
theorem hd_X8_caller : yX8_caller.cls = RX8 ∧ yX8_caller.cls ≠ "java/lang/invoke/MethodHandle" ∧ yX8_caller.cls ≠ "java/lang/invoke/VarHandle" ∧ (parseMethodDescriptor yX8_caller.desc).map (fun d => d.parameters.length) = some 2 := by decide +kernel
set_option maxHeartbeats 4000000 in
set_option maxRecDepth 100000 in
theorem c_X8_caller (l : Launch) (D : va_G) (ad : Nat → Nat) (cI cJ cZ : ClassId) (σ : SS) (v1 : Int32) (v2 : Int32) {res : Int32 × SS} (hf : p_X8_caller_0 v1 v2 σ = some res) : Met l yX8_caller wsX8_caller ({ frames := 7, cells := 0, slots := 0, locals := 175 } : Room) (PW D (tyw cI cJ cZ) (wM ad cI cJ cZ σ) [.ref (ad 0), .int v1, .int v2]) (va_Qi (fun (r : Int32) (u : SS) => (r, u) = res) (fun u t => va_P D vwCl (wM ad cI cJ cZ u) t.heap) (aM ad)) 0 0 (aM ad) := by
  refine Met.ofW (cc := cX8_caller) (maxL := 4) (ret := (some .int)) (by decide) rfl ?_
  intro p e s m args below meth c s₁ B hml hv
  obtain ⟨rfl, hP, hK, hD0⟩ := hv
  have hD : ∀ σ, va_D (aM ad) (wM ad cI cJ cZ σ) := fun σ => wd_D hD0 (wM_map _ _ _ _ _) (wM_map _ _ _ _ _)
  have hm : mx p s m _ meth c cX8_caller 4 (some .int) wsX8_caller RX8 := ⟨B.exec, B.bytes, B.returns, hml, findClass_of_methodNamed B.named, atoms_spec (ws := wsX8_caller) B.pre, B.notSynchronized⟩
  have hl := lv_entry ([.ref (ad 0), .int v1, .int v2]) (n := 4) (Nat.le_of_ble_eq_true rfl)
  rw [lg_entry_eq]
  generalize (lg_sl ([.ref (ad 0), .int v1, .int v2]) ++ List.replicate (4 - (lg_sl ([.ref (ad 0), .int v1, .int v2])).length) Slot.unset).toArray = ls at hl ⊢
  exact w_X8_caller_0 hm ⟨Nat.le_refl _, Nat.le_refl _⟩ hK hD v1 v2 σ hf _ _ _ hP va_S.rf hl
/-! CallGraphsModel.findFar(I)V -/
theorem in_X8_findFar_X8 : ∀ w ∈ u_ws RX8 TX8 50, w ∈ wsX8_findFar := fun w h => List.mem_cons_of_mem _ (List.mem_append_right _ h)
def p_X8_findFar_26 (k2 : Int32 → Int32 → SS → Option (SS)) (v1 : Int32) (v2 : Int32) (t0 : Int32) (t1 : Int32) (σ : SS) : Option (SS) := oi t1 48 (os (sI σ 27 (t1.toNatClampNeg) t0) (fun s_26 => k2 v1 (v2 + 1) s_26))
set_option maxHeartbeats 4000000 in
set_option maxRecDepth 100000 in
theorem w_X8_findFar_26 {p : Program} {l : Launch} {e : Env} {R : Room} {s : State} {m : MethodId} {args : Array Value} {below : List Frame} {meth : Method} {c : Code} {D : va_G} {ad : Nat → Nat} {cI cJ cZ : ClassId} {res : SS} (hm : mx p s m args meth c cX8_findFar 5 none wsX8_findFar RX8) (hR : 1 ≤ R.frames ∧ 22 ≤ R.locals) (hK : va_K D vwCl (tyw cI cJ cZ) s) (hD : ∀ σ, va_D (aM ad) (wM ad cI cJ cZ σ)) (k2 : Int32 → Int32 → SS → Option (SS)) (hk2 : ∀ (v1 : Int32) (v2 : Int32) (σ : SS), k2 v1 v2 σ = some res → ∀ (H : Heap) (locs : List Loc) (ls : Array Slot), va_P D vwCl (wM ad cI cJ cZ σ) H → va_S (aM ad) s.heap H locs → lv_has ls 5 [(0, .ref (ad 0)), (1, .int v1), (2, .int v2)] → W p l e R s m args below meth c H locs 0 0 (MQ below (va_Qv (fun (u : SS) => u = res) (fun u t => va_P D vwCl (wM ad cI cJ cZ u) t.heap) (aM ad)) args s 0 0 (aM ad)) (F0 m 2 ls [])) (v1 : Int32) (v2 : Int32) (t0 : Int32) (t1 : Int32) (σ : SS) (hf : p_X8_findFar_26 k2 v1 v2 t0 t1 σ = some res) (H : Heap) (locs : List Loc) (ls : Array Slot) (hP : va_P D vwCl (wM ad cI cJ cZ σ) H) (hS : va_S (aM ad) s.heap H locs) (hl : lv_has ls 5 [(0, .ref (ad 0)), (1, .int v1), (2, .int v2)]) : W p l e R s m args below meth c H locs 0 0 (MQ below (va_Qv (fun (u : SS) => u = res) (fun u t => va_P D vwCl (wM ad cI cJ cZ u) t.heap) (aM ad)) args s 0 0 (aM ad)) (F0 m 26 ls [.int t0, .int t1, .ref (ad 27)]) := by
  obtain ⟨hx, hb, hr, hml, hown, hts, hlk⟩ := id hm
  unfold p_X8_findFar_26 at hf
  obtain ⟨h_26, hf⟩ := oi_e hf
  refine va_iast hx hb hK hP (hD _) hS 27 0 (wM_27 _ _ _ _ _) rfl h_26 dX8_findFar_26 (fun H locs hP _ hS => ?_)
  have hP := wM_s27 hP
  obtain ⟨s_26, es_26, hf⟩ := os_e hf
  rw [← es_26] at hP
  refine lv_iinc (v := (v2 + 1)) (lv' := [(2, .int (v2 + 1)), (0, .ref (ad 0)), (1, .int v1)]) hx hb dX8_findFar_27 hl (k := 2) rfl rfl (by decide) rfl (fun ls hl => ?_)
  refine lv_goto (tgt := 2) hx hb dX8_findFar_30 (by decide) ?_
  exact hk2 v1 (v2 + 1) s_26 hf _ _ _ hP hS (lv_sub hl [1, 2, 0] rfl)
def p_X8_findFar_108 (k35 : Int32 → SS → Option (SS)) (k43 : Int32 → Int32 → SS → Option (SS)) (k54 : Int32 → Int32 → Int32 → SS → Option (SS)) (v2 : Int32) (v3 : Int32) (v4 : Int32) (σ : SS) : Option (SS) := k54 v2 v3 (v4 + 1) σ
set_option maxHeartbeats 4000000 in
set_option maxRecDepth 100000 in
theorem w_X8_findFar_108 {p : Program} {l : Launch} {e : Env} {R : Room} {s : State} {m : MethodId} {args : Array Value} {below : List Frame} {meth : Method} {c : Code} {D : va_G} {ad : Nat → Nat} {cI cJ cZ : ClassId} {res : SS} (hm : mx p s m args meth c cX8_findFar 5 none wsX8_findFar RX8) (hR : 1 ≤ R.frames ∧ 22 ≤ R.locals) (hK : va_K D vwCl (tyw cI cJ cZ) s) (hD : ∀ σ, va_D (aM ad) (wM ad cI cJ cZ σ)) (k35 : Int32 → SS → Option (SS)) (hk35 : ∀ (v2 : Int32) (σ : SS), k35 v2 σ = some res → ∀ (H : Heap) (locs : List Loc) (ls : Array Slot), va_P D vwCl (wM ad cI cJ cZ σ) H → va_S (aM ad) s.heap H locs → lv_has ls 5 [(0, .ref (ad 0)), (2, .int v2)] → W p l e R s m args below meth c H locs 0 0 (MQ below (va_Qv (fun (u : SS) => u = res) (fun u t => va_P D vwCl (wM ad cI cJ cZ u) t.heap) (aM ad)) args s 0 0 (aM ad)) (F0 m 35 ls [])) (k43 : Int32 → Int32 → SS → Option (SS)) (hk43 : ∀ (v2 : Int32) (v3 : Int32) (σ : SS), k43 v2 v3 σ = some res → ∀ (H : Heap) (locs : List Loc) (ls : Array Slot), va_P D vwCl (wM ad cI cJ cZ σ) H → va_S (aM ad) s.heap H locs → lv_has ls 5 [(0, .ref (ad 0)), (2, .int v2), (3, .int v3)] → W p l e R s m args below meth c H locs 0 0 (MQ below (va_Qv (fun (u : SS) => u = res) (fun u t => va_P D vwCl (wM ad cI cJ cZ u) t.heap) (aM ad)) args s 0 0 (aM ad)) (F0 m 43 ls [])) (k54 : Int32 → Int32 → Int32 → SS → Option (SS)) (hk54 : ∀ (v2 : Int32) (v3 : Int32) (v4 : Int32) (σ : SS), k54 v2 v3 v4 σ = some res → ∀ (H : Heap) (locs : List Loc) (ls : Array Slot), va_P D vwCl (wM ad cI cJ cZ σ) H → va_S (aM ad) s.heap H locs → lv_has ls 5 [(0, .ref (ad 0)), (2, .int v2), (3, .int v3), (4, .int v4)] → W p l e R s m args below meth c H locs 0 0 (MQ below (va_Qv (fun (u : SS) => u = res) (fun u t => va_P D vwCl (wM ad cI cJ cZ u) t.heap) (aM ad)) args s 0 0 (aM ad)) (F0 m 54 ls [])) (v2 : Int32) (v3 : Int32) (v4 : Int32) (σ : SS) (hf : p_X8_findFar_108 k35 k43 k54 v2 v3 v4 σ = some res) (H : Heap) (locs : List Loc) (ls : Array Slot) (hP : va_P D vwCl (wM ad cI cJ cZ σ) H) (hS : va_S (aM ad) s.heap H locs) (hl : lv_has ls 5 [(0, .ref (ad 0)), (2, .int v2), (3, .int v3), (4, .int v4)]) : W p l e R s m args below meth c H locs 0 0 (MQ below (va_Qv (fun (u : SS) => u = res) (fun u t => va_P D vwCl (wM ad cI cJ cZ u) t.heap) (aM ad)) args s 0 0 (aM ad)) (F0 m 108 ls []) := by
  obtain ⟨hx, hb, hr, hml, hown, hts, hlk⟩ := id hm
  unfold p_X8_findFar_108 at hf
  refine lv_iinc (v := (v4 + 1)) (lv' := [(4, .int (v4 + 1)), (0, .ref (ad 0)), (2, .int v2), (3, .int v3)]) hx hb dX8_findFar_108 hl (k := 3) rfl rfl (by decide) rfl (fun ls hl => ?_)
  refine lv_goto (tgt := 54) hx hb dX8_findFar_111 (by decide) ?_
  exact hk54 v2 v3 (v4 + 1) σ hf _ _ _ hP hS (lv_sub hl [1, 2, 3, 0] rfl)
def p_X8_findFar_54 (k35 : Int32 → SS → Option (SS)) (k43 : Int32 → Int32 → SS → Option (SS)) : Nat → Int32 → Int32 → Int32 → SS → Option (SS)
  | 0, _, _, _, _ => none
  | n + 1, v2, v3, v4, σ => let k54 := p_X8_findFar_54 k35 k43 n; if (σ.1 0 5) ≤ v4 then k43 v2 (v3 + 1) σ else oi v4 48 (oi v3 48 (if (σ.1 27 v3.toNatClampNeg) ≤ ((σ.1 27 v4.toNatClampNeg) + 1) then p_X8_findFar_108 k35 k43 k54 v2 v3 v4 σ else oc (p_X8_isCallee_0 σ v3 v4) (fun r_85 => if r_85 = 0 then p_X8_findFar_108 k35 k43 k54 v2 v3 v4 σ else oi v4 48 (oi v3 48 (os (sI σ 27 (v3.toNatClampNeg) ((σ.1 27 v4.toNatClampNeg) + 1)) (fun s_105 => p_X8_findFar_108 k35 k43 k54 1 v3 v4 s_105))))))
set_option maxHeartbeats 4000000 in
set_option maxRecDepth 100000 in
theorem w_X8_findFar_54 {p : Program} {l : Launch} {e : Env} {R : Room} {s : State} {m : MethodId} {args : Array Value} {below : List Frame} {meth : Method} {c : Code} {D : va_G} {ad : Nat → Nat} {cI cJ cZ : ClassId} {res : SS} (hm : mx p s m args meth c cX8_findFar 5 none wsX8_findFar RX8) (hR : 1 ≤ R.frames ∧ 22 ≤ R.locals) (hK : va_K D vwCl (tyw cI cJ cZ) s) (hD : ∀ σ, va_D (aM ad) (wM ad cI cJ cZ σ)) (k35 : Int32 → SS → Option (SS)) (hk35 : ∀ (v2 : Int32) (σ : SS), k35 v2 σ = some res → ∀ (H : Heap) (locs : List Loc) (ls : Array Slot), va_P D vwCl (wM ad cI cJ cZ σ) H → va_S (aM ad) s.heap H locs → lv_has ls 5 [(0, .ref (ad 0)), (2, .int v2)] → W p l e R s m args below meth c H locs 0 0 (MQ below (va_Qv (fun (u : SS) => u = res) (fun u t => va_P D vwCl (wM ad cI cJ cZ u) t.heap) (aM ad)) args s 0 0 (aM ad)) (F0 m 35 ls [])) (k43 : Int32 → Int32 → SS → Option (SS)) (hk43 : ∀ (v2 : Int32) (v3 : Int32) (σ : SS), k43 v2 v3 σ = some res → ∀ (H : Heap) (locs : List Loc) (ls : Array Slot), va_P D vwCl (wM ad cI cJ cZ σ) H → va_S (aM ad) s.heap H locs → lv_has ls 5 [(0, .ref (ad 0)), (2, .int v2), (3, .int v3)] → W p l e R s m args below meth c H locs 0 0 (MQ below (va_Qv (fun (u : SS) => u = res) (fun u t => va_P D vwCl (wM ad cI cJ cZ u) t.heap) (aM ad)) args s 0 0 (aM ad)) (F0 m 43 ls [])) : ∀ (n : Nat) (v2 : Int32) (v3 : Int32) (v4 : Int32) (σ : SS), p_X8_findFar_54 k35 k43 n v2 v3 v4 σ = some res → ∀ (H : Heap) (locs : List Loc) (ls : Array Slot), va_P D vwCl (wM ad cI cJ cZ σ) H → va_S (aM ad) s.heap H locs → lv_has ls 5 [(0, .ref (ad 0)), (2, .int v2), (3, .int v3), (4, .int v4)] → W p l e R s m args below meth c H locs 0 0 (MQ below (va_Qv (fun (u : SS) => u = res) (fun u t => va_P D vwCl (wM ad cI cJ cZ u) t.heap) (aM ad)) args s 0 0 (aM ad)) (F0 m 54 ls []) := by
  obtain ⟨hx, hb, hr, hml, hown, hts, hlk⟩ := id hm
  intro n
  induction n with
  | zero =>
    intro _ _ _ _ hf
    cases hf
  | succ n hk54 =>
    intro v2 v3 v4 σ hf H locs ls hP hS hl
    rw [p_X8_findFar_54] at hf
    try dsimp only at hf
    refine lv_iload hx hb dX8_findFar_54 (lv_at hl 3 rfl) ?_
    refine lv_aload_n hx hb dX8_findFar_56 rfl (lv_at hl 0 rfl) ?_
    refine va_get (D := D) (ci := 7) (v := .int (σ.1 0 5)) (C := RX8) (T := TX8) (N := 50) hx hb hts in_X8_findFar_X8 hown hK hP 0 (wM_0 _ _ _ _ _) rfl 5 (by decide) (hts (.fieldLink RX8 131 "CallGraphsModel" "members" "I") (List.mem_of_getElem? (i := 1) rfl)) (fun _ h9 => h9) (fM_0_5 _ _) dX8_findFar_57 ?_
    refine lv_icmp_ge (tgt := 114) hx hb dX8_findFar_60 (by decide) (fun c_60 => ?_) (fun c_60 => ?_)
    · rw [if_pos c_60] at hf
      refine lv_iinc (v := (v3 + 1)) (lv' := [(3, .int (v3 + 1)), (0, .ref (ad 0)), (2, .int v2), (4, .int v4)]) hx hb dX8_findFar_114 hl (k := 2) rfl rfl (by decide) rfl (fun ls hl => ?_)
      refine lv_goto (tgt := 43) hx hb dX8_findFar_117 (by decide) ?_
      exact hk43 v2 (v3 + 1) σ hf _ _ _ hP hS (lv_sub hl [1, 2, 0] rfl)
    · rw [if_neg c_60] at hf
      refine lv_aload_n hx hb dX8_findFar_63 rfl (lv_at hl 0 rfl) ?_
      refine va_get (D := D) (ci := 7) (v := .ref (ad 27)) (C := RX8) (T := TX8) (N := 50) hx hb hts in_X8_findFar_X8 hown hK hP 0 (wM_0 _ _ _ _ _) rfl 32 (by decide) (hts (.fieldLink RX8 89 "CallGraphsModel" "far" "[I") (List.mem_of_getElem? (i := 2) rfl)) (fun _ h9 => h9) (fM_0_32 _ _) dX8_findFar_64 ?_
      refine lv_iload hx hb dX8_findFar_67 (lv_at hl 3 rfl) ?_
      obtain ⟨h_69, hf⟩ := oi_e hf
      refine va_iald hx hb hK hP 27 0 (wM_27 _ _ _ _ _) rfl h_69 dX8_findFar_69 ?_
      refine lv_iconst (v := 1) hx hb dX8_findFar_70 (by decide) ?_
      refine lv_iadd hx hb dX8_findFar_71 ?_
      refine lv_aload_n hx hb dX8_findFar_72 rfl (lv_at hl 0 rfl) ?_
      refine va_get (D := D) (ci := 7) (v := .ref (ad 27)) (C := RX8) (T := TX8) (N := 50) hx hb hts in_X8_findFar_X8 hown hK hP 0 (wM_0 _ _ _ _ _) rfl 32 (by decide) (hts (.fieldLink RX8 89 "CallGraphsModel" "far" "[I") (List.mem_of_getElem? (i := 2) rfl)) (fun _ h9 => h9) (fM_0_32 _ _) dX8_findFar_73 ?_
      refine lv_iload_n hx hb dX8_findFar_76 rfl (lv_at hl 2 rfl) ?_
      obtain ⟨h_77, hf⟩ := oi_e hf
      refine va_iald hx hb hK hP 27 0 (wM_27 _ _ _ _ _) rfl h_77 dX8_findFar_77 ?_
      refine lv_icmp_ge (tgt := 108) hx hb dX8_findFar_78 (by decide) (fun c_78 => ?_) (fun c_78 => ?_)
      · rw [if_pos c_78] at hf
        exact w_X8_findFar_108 hm hR hK hD k35 hk35 k43 hk43 (p_X8_findFar_54 k35 k43 n) hk54 v2 v3 v4 σ hf _ _ _ hP hS (lv_sub hl [0, 1, 2, 3] rfl)
      · rw [if_neg c_78] at hf
        refine lv_aload_n hx hb dX8_findFar_81 rfl (lv_at hl 0 rfl) ?_
        refine lv_iload_n hx hb dX8_findFar_82 rfl (lv_at hl 2 rfl) ?_
        refine lv_iload hx hb dX8_findFar_83 (lv_at hl 3 rfl) ?_
        obtain ⟨r_85, hg_85, hf⟩ := oc_e hf
        refine mV_ri (wd := wM ad cI cJ cZ) (σ := σ) (As := [.int v3, .int v4]) (rest := []) ⟨hx, hb, hml, hown, hts⟩ hK hP hD hS (c_X8_isCallee l D ad cI cJ cZ σ v3 v4 hg_85) (cwV 2 hts gX8_findFar_X8_isCallee rfl rfl rfl hd_X8_isCallee ⟨Nat.le_trans (Nat.le_of_ble_eq_true rfl) hR.1, Nat.le_trans (Nat.le_of_ble_eq_true rfl) hR.2⟩) rfl (wM_0 _ _ _ _ _) rfl hl.1 rfl (Nat.le_of_ble_eq_true rfl) dX8_findFar_85 (fun H locs hP hS => ?_)
        refine lv_if_eq (tgt := 108) hx hb dX8_findFar_88 (by decide) (fun c_88 => ?_) (fun c_88 => ?_)
        · rw [if_pos c_88] at hf
          exact w_X8_findFar_108 hm hR hK hD k35 hk35 k43 hk43 (p_X8_findFar_54 k35 k43 n) hk54 v2 v3 v4 σ hf _ _ _ hP hS (lv_sub hl [0, 1, 2, 3] rfl)
        · rw [if_neg c_88] at hf
          refine lv_aload_n hx hb dX8_findFar_91 rfl (lv_at hl 0 rfl) ?_
          refine va_get (D := D) (ci := 7) (v := .ref (ad 27)) (C := RX8) (T := TX8) (N := 50) hx hb hts in_X8_findFar_X8 hown hK hP 0 (wM_0 _ _ _ _ _) rfl 32 (by decide) (hts (.fieldLink RX8 89 "CallGraphsModel" "far" "[I") (List.mem_of_getElem? (i := 2) rfl)) (fun _ h9 => h9) (fM_0_32 _ _) dX8_findFar_92 ?_
          refine lv_iload_n hx hb dX8_findFar_95 rfl (lv_at hl 2 rfl) ?_
          refine lv_aload_n hx hb dX8_findFar_96 rfl (lv_at hl 0 rfl) ?_
          refine va_get (D := D) (ci := 7) (v := .ref (ad 27)) (C := RX8) (T := TX8) (N := 50) hx hb hts in_X8_findFar_X8 hown hK hP 0 (wM_0 _ _ _ _ _) rfl 32 (by decide) (hts (.fieldLink RX8 89 "CallGraphsModel" "far" "[I") (List.mem_of_getElem? (i := 2) rfl)) (fun _ h9 => h9) (fM_0_32 _ _) dX8_findFar_97 ?_
          refine lv_iload hx hb dX8_findFar_100 (lv_at hl 3 rfl) ?_
          obtain ⟨h_102, hf⟩ := oi_e hf
          refine va_iald hx hb hK hP 27 0 (wM_27 _ _ _ _ _) rfl h_102 dX8_findFar_102 ?_
          refine lv_iconst (v := 1) hx hb dX8_findFar_103 (by decide) ?_
          refine lv_iadd hx hb dX8_findFar_104 ?_
          obtain ⟨h_105, hf⟩ := oi_e hf
          refine va_iast hx hb hK hP (hD _) hS 27 0 (wM_27 _ _ _ _ _) rfl h_105 dX8_findFar_105 (fun H locs hP _ hS => ?_)
          have hP := wM_s27 hP
          obtain ⟨s_105, es_105, hf⟩ := os_e hf
          rw [← es_105] at hP
          refine lv_iconst (v := 1) hx hb dX8_findFar_106 (by decide) ?_
          refine lv_istore_n (lv' := [(2, .int 1), (0, .ref (ad 0)), (3, .int v3), (4, .int v4)]) hx hb dX8_findFar_107 rfl hl (by decide) rfl (fun ls hl => ?_)
          exact w_X8_findFar_108 hm hR hK hD k35 hk35 k43 hk43 (p_X8_findFar_54 k35 k43 n) hk54 1 v3 v4 s_105 hf _ _ _ hP hS (lv_sub hl [1, 0, 2, 3] rfl)
def p_X8_findFar_43 (k35 : Int32 → SS → Option (SS)) : Nat → Int32 → Int32 → SS → Option (SS)
  | 0, _, _, _ => none
  | n + 1, v2, v3, σ => let k43 := p_X8_findFar_43 k35 n; if (σ.1 0 5) ≤ v3 then k35 v2 σ else p_X8_findFar_54 k35 k43 100000 v2 v3 0 σ
set_option maxHeartbeats 4000000 in
set_option maxRecDepth 100000 in
theorem w_X8_findFar_43 {p : Program} {l : Launch} {e : Env} {R : Room} {s : State} {m : MethodId} {args : Array Value} {below : List Frame} {meth : Method} {c : Code} {D : va_G} {ad : Nat → Nat} {cI cJ cZ : ClassId} {res : SS} (hm : mx p s m args meth c cX8_findFar 5 none wsX8_findFar RX8) (hR : 1 ≤ R.frames ∧ 22 ≤ R.locals) (hK : va_K D vwCl (tyw cI cJ cZ) s) (hD : ∀ σ, va_D (aM ad) (wM ad cI cJ cZ σ)) (k35 : Int32 → SS → Option (SS)) (hk35 : ∀ (v2 : Int32) (σ : SS), k35 v2 σ = some res → ∀ (H : Heap) (locs : List Loc) (ls : Array Slot), va_P D vwCl (wM ad cI cJ cZ σ) H → va_S (aM ad) s.heap H locs → lv_has ls 5 [(0, .ref (ad 0)), (2, .int v2)] → W p l e R s m args below meth c H locs 0 0 (MQ below (va_Qv (fun (u : SS) => u = res) (fun u t => va_P D vwCl (wM ad cI cJ cZ u) t.heap) (aM ad)) args s 0 0 (aM ad)) (F0 m 35 ls [])) : ∀ (n : Nat) (v2 : Int32) (v3 : Int32) (σ : SS), p_X8_findFar_43 k35 n v2 v3 σ = some res → ∀ (H : Heap) (locs : List Loc) (ls : Array Slot), va_P D vwCl (wM ad cI cJ cZ σ) H → va_S (aM ad) s.heap H locs → lv_has ls 5 [(0, .ref (ad 0)), (2, .int v2), (3, .int v3)] → W p l e R s m args below meth c H locs 0 0 (MQ below (va_Qv (fun (u : SS) => u = res) (fun u t => va_P D vwCl (wM ad cI cJ cZ u) t.heap) (aM ad)) args s 0 0 (aM ad)) (F0 m 43 ls []) := by
  obtain ⟨hx, hb, hr, hml, hown, hts, hlk⟩ := id hm
  intro n
  induction n with
  | zero =>
    intro _ _ _ hf
    cases hf
  | succ n hk43 =>
    intro v2 v3 σ hf H locs ls hP hS hl
    rw [p_X8_findFar_43] at hf
    try dsimp only at hf
    refine lv_iload_n hx hb dX8_findFar_43 rfl (lv_at hl 2 rfl) ?_
    refine lv_aload_n hx hb dX8_findFar_44 rfl (lv_at hl 0 rfl) ?_
    refine va_get (D := D) (ci := 7) (v := .int (σ.1 0 5)) (C := RX8) (T := TX8) (N := 50) hx hb hts in_X8_findFar_X8 hown hK hP 0 (wM_0 _ _ _ _ _) rfl 5 (by decide) (hts (.fieldLink RX8 131 "CallGraphsModel" "members" "I") (List.mem_of_getElem? (i := 1) rfl)) (fun _ h9 => h9) (fM_0_5 _ _) dX8_findFar_45 ?_
    refine lv_icmp_ge (tgt := 120) hx hb dX8_findFar_48 (by decide) (fun c_48 => ?_) (fun c_48 => ?_)
    · rw [if_pos c_48] at hf
      refine lv_goto (tgt := 35) hx hb dX8_findFar_120 (by decide) ?_
      exact hk35 v2 σ hf _ _ _ hP hS (lv_sub hl [0, 1] rfl)
    · rw [if_neg c_48] at hf
      refine lv_iconst (v := 0) hx hb dX8_findFar_51 (by decide) ?_
      refine lv_istore (lv' := [(4, .int 0), (0, .ref (ad 0)), (2, .int v2), (3, .int v3)]) hx hb dX8_findFar_52 hl (by decide) rfl (fun ls hl => ?_)
      exact w_X8_findFar_54 hm hR hK hD k35 hk35 (p_X8_findFar_43 k35 n) hk43 100000 v2 v3 0 σ hf _ _ _ hP hS (lv_sub hl [1, 2, 3, 0] rfl)
def p_X8_findFar_35 : Nat → Int32 → SS → Option (SS)
  | 0, _, _ => none
  | n + 1, v2, σ => let k35 := p_X8_findFar_35 n; if v2 = 0 then some σ else p_X8_findFar_43 k35 100000 0 0 σ
set_option maxHeartbeats 4000000 in
set_option maxRecDepth 100000 in
theorem w_X8_findFar_35 {p : Program} {l : Launch} {e : Env} {R : Room} {s : State} {m : MethodId} {args : Array Value} {below : List Frame} {meth : Method} {c : Code} {D : va_G} {ad : Nat → Nat} {cI cJ cZ : ClassId} {res : SS} (hm : mx p s m args meth c cX8_findFar 5 none wsX8_findFar RX8) (hR : 1 ≤ R.frames ∧ 22 ≤ R.locals) (hK : va_K D vwCl (tyw cI cJ cZ) s) (hD : ∀ σ, va_D (aM ad) (wM ad cI cJ cZ σ)) : ∀ (n : Nat) (v2 : Int32) (σ : SS), p_X8_findFar_35 n v2 σ = some res → ∀ (H : Heap) (locs : List Loc) (ls : Array Slot), va_P D vwCl (wM ad cI cJ cZ σ) H → va_S (aM ad) s.heap H locs → lv_has ls 5 [(0, .ref (ad 0)), (2, .int v2)] → W p l e R s m args below meth c H locs 0 0 (MQ below (va_Qv (fun (u : SS) => u = res) (fun u t => va_P D vwCl (wM ad cI cJ cZ u) t.heap) (aM ad)) args s 0 0 (aM ad)) (F0 m 35 ls []) := by
  obtain ⟨hx, hb, hr, hml, hown, hts, hlk⟩ := id hm
  intro n
  induction n with
  | zero =>
    intro _ _ hf
    cases hf
  | succ n hk35 =>
    intro v2 σ hf H locs ls hP hS hl
    rw [p_X8_findFar_35] at hf
    try dsimp only at hf
    refine lv_iload_n hx hb dX8_findFar_35 rfl (lv_at hl 1 rfl) ?_
    refine lv_if_eq (tgt := 123) hx hb dX8_findFar_36 (by decide) (fun c_36 => ?_) (fun c_36 => ?_)
    · rw [if_pos c_36] at hf
      exact rt_v (wd := wM ad cI cJ cZ) hx hb hr hlk (Option.some.inj hf) hP hS dX8_findFar_123
    · rw [if_neg c_36] at hf
      refine lv_iconst (v := 0) hx hb dX8_findFar_39 (by decide) ?_
      refine lv_istore_n (lv' := [(2, .int 0), (0, .ref (ad 0))]) hx hb dX8_findFar_40 rfl hl (by decide) rfl (fun ls hl => ?_)
      refine lv_iconst (v := 0) hx hb dX8_findFar_41 (by decide) ?_
      refine lv_istore_n (lv' := [(3, .int 0), (2, .int 0), (0, .ref (ad 0))]) hx hb dX8_findFar_42 rfl hl (by decide) rfl (fun ls hl => ?_)
      exact w_X8_findFar_43 hm hR hK hD (p_X8_findFar_35 n) hk35 100000 0 0 σ hf _ _ _ hP hS (lv_sub hl [2, 1, 0] rfl)
def p_X8_findFar_2 : Nat → Int32 → Int32 → SS → Option (SS)
  | 0, _, _, _ => none
  | n + 1, v1, v2, σ => let k2 := p_X8_findFar_2 n; if (σ.1 0 5) ≤ v2 then p_X8_findFar_35 100000 1 σ else if v2 = v1 then p_X8_findFar_26 k2 v1 v2 0 v2 σ else p_X8_findFar_26 k2 v1 v2 99 v2 σ
set_option maxHeartbeats 4000000 in
set_option maxRecDepth 100000 in
theorem w_X8_findFar_2 {p : Program} {l : Launch} {e : Env} {R : Room} {s : State} {m : MethodId} {args : Array Value} {below : List Frame} {meth : Method} {c : Code} {D : va_G} {ad : Nat → Nat} {cI cJ cZ : ClassId} {res : SS} (hm : mx p s m args meth c cX8_findFar 5 none wsX8_findFar RX8) (hR : 1 ≤ R.frames ∧ 22 ≤ R.locals) (hK : va_K D vwCl (tyw cI cJ cZ) s) (hD : ∀ σ, va_D (aM ad) (wM ad cI cJ cZ σ)) : ∀ (n : Nat) (v1 : Int32) (v2 : Int32) (σ : SS), p_X8_findFar_2 n v1 v2 σ = some res → ∀ (H : Heap) (locs : List Loc) (ls : Array Slot), va_P D vwCl (wM ad cI cJ cZ σ) H → va_S (aM ad) s.heap H locs → lv_has ls 5 [(0, .ref (ad 0)), (1, .int v1), (2, .int v2)] → W p l e R s m args below meth c H locs 0 0 (MQ below (va_Qv (fun (u : SS) => u = res) (fun u t => va_P D vwCl (wM ad cI cJ cZ u) t.heap) (aM ad)) args s 0 0 (aM ad)) (F0 m 2 ls []) := by
  obtain ⟨hx, hb, hr, hml, hown, hts, hlk⟩ := id hm
  intro n
  induction n with
  | zero =>
    intro _ _ _ hf
    cases hf
  | succ n hk2 =>
    intro v1 v2 σ hf H locs ls hP hS hl
    rw [p_X8_findFar_2] at hf
    try dsimp only at hf
    refine lv_iload_n hx hb dX8_findFar_2 rfl (lv_at hl 2 rfl) ?_
    refine lv_aload_n hx hb dX8_findFar_3 rfl (lv_at hl 0 rfl) ?_
    refine va_get (D := D) (ci := 7) (v := .int (σ.1 0 5)) (C := RX8) (T := TX8) (N := 50) hx hb hts in_X8_findFar_X8 hown hK hP 0 (wM_0 _ _ _ _ _) rfl 5 (by decide) (hts (.fieldLink RX8 131 "CallGraphsModel" "members" "I") (List.mem_of_getElem? (i := 1) rfl)) (fun _ h9 => h9) (fM_0_5 _ _) dX8_findFar_4 ?_
    refine lv_icmp_ge (tgt := 33) hx hb dX8_findFar_7 (by decide) (fun c_7 => ?_) (fun c_7 => ?_)
    · rw [if_pos c_7] at hf
      refine lv_iconst (v := 1) hx hb dX8_findFar_33 (by decide) ?_
      refine lv_istore_n (lv' := [(2, .int 1), (0, .ref (ad 0)), (1, .int v1)]) hx hb dX8_findFar_34 rfl hl (by decide) rfl (fun ls hl => ?_)
      exact w_X8_findFar_35 hm hR hK hD 100000 1 σ hf _ _ _ hP hS (lv_sub hl [1, 0] rfl)
    · rw [if_neg c_7] at hf
      refine lv_aload_n hx hb dX8_findFar_10 rfl (lv_at hl 0 rfl) ?_
      refine va_get (D := D) (ci := 7) (v := .ref (ad 27)) (C := RX8) (T := TX8) (N := 50) hx hb hts in_X8_findFar_X8 hown hK hP 0 (wM_0 _ _ _ _ _) rfl 32 (by decide) (hts (.fieldLink RX8 89 "CallGraphsModel" "far" "[I") (List.mem_of_getElem? (i := 2) rfl)) (fun _ h9 => h9) (fM_0_32 _ _) dX8_findFar_11 ?_
      refine lv_iload_n hx hb dX8_findFar_14 rfl (lv_at hl 2 rfl) ?_
      refine lv_iload_n hx hb dX8_findFar_15 rfl (lv_at hl 2 rfl) ?_
      refine lv_iload_n hx hb dX8_findFar_16 rfl (lv_at hl 1 rfl) ?_
      refine lv_icmp_ne (tgt := 24) hx hb dX8_findFar_17 (by decide) (fun c_17 => ?_) (fun c_17 => ?_)
      · rw [if_neg c_17] at hf
        refine lv_bipush (v := 99) hx hb dX8_findFar_24 (by decide) ?_
        exact w_X8_findFar_26 hm hR hK hD (p_X8_findFar_2 n) hk2 v1 v2 99 v2 σ hf _ _ _ hP hS (lv_sub hl [0, 1, 2] rfl)
      · rw [if_pos c_17] at hf
        refine lv_iconst (v := 0) hx hb dX8_findFar_20 (by decide) ?_
        refine lv_goto (tgt := 26) hx hb dX8_findFar_21 (by decide) ?_
        exact w_X8_findFar_26 hm hR hK hD (p_X8_findFar_2 n) hk2 v1 v2 0 v2 σ hf _ _ _ hP hS (lv_sub hl [0, 1, 2] rfl)
def p_X8_findFar_0 (v1 : Int32) (σ : SS) : Option (SS) := p_X8_findFar_2 100000 v1 0 σ
set_option maxHeartbeats 4000000 in
set_option maxRecDepth 100000 in
theorem w_X8_findFar_0 {p : Program} {l : Launch} {e : Env} {R : Room} {s : State} {m : MethodId} {args : Array Value} {below : List Frame} {meth : Method} {c : Code} {D : va_G} {ad : Nat → Nat} {cI cJ cZ : ClassId} {res : SS} (hm : mx p s m args meth c cX8_findFar 5 none wsX8_findFar RX8) (hR : 1 ≤ R.frames ∧ 22 ≤ R.locals) (hK : va_K D vwCl (tyw cI cJ cZ) s) (hD : ∀ σ, va_D (aM ad) (wM ad cI cJ cZ σ)) (v1 : Int32) (σ : SS) (hf : p_X8_findFar_0 v1 σ = some res) (H : Heap) (locs : List Loc) (ls : Array Slot) (hP : va_P D vwCl (wM ad cI cJ cZ σ) H) (hS : va_S (aM ad) s.heap H locs) (hl : lv_has ls 5 [(0, .ref (ad 0)), (1, .int v1)]) : W p l e R s m args below meth c H locs 0 0 (MQ below (va_Qv (fun (u : SS) => u = res) (fun u t => va_P D vwCl (wM ad cI cJ cZ u) t.heap) (aM ad)) args s 0 0 (aM ad)) (F0 m 0 ls []) := by
  obtain ⟨hx, hb, hr, hml, hown, hts, hlk⟩ := id hm
  unfold p_X8_findFar_0 at hf
  refine lv_iconst (v := 0) hx hb dX8_findFar_0 (by decide) ?_
  refine lv_istore_n (lv' := [(2, .int 0), (0, .ref (ad 0)), (1, .int v1)]) hx hb dX8_findFar_1 rfl hl (by decide) rfl (fun ls hl => ?_)
  exact w_X8_findFar_2 hm hR hK hD 100000 v1 0 σ hf _ _ _ hP hS (lv_sub hl [1, 2, 0] rfl)
theorem hd_X8_findFar : yX8_findFar.cls = RX8 ∧ yX8_findFar.cls ≠ "java/lang/invoke/MethodHandle" ∧ yX8_findFar.cls ≠ "java/lang/invoke/VarHandle" ∧ (parseMethodDescriptor yX8_findFar.desc).map (fun d => d.parameters.length) = some 1 := by decide +kernel
set_option maxHeartbeats 4000000 in
set_option maxRecDepth 100000 in
theorem c_X8_findFar (l : Launch) (D : va_G) (ad : Nat → Nat) (cI cJ cZ : ClassId) (σ : SS) (v1 : Int32) {res : SS} (hf : p_X8_findFar_0 v1 σ = some res) : Met l yX8_findFar wsX8_findFar ({ frames := 1, cells := 0, slots := 0, locals := 22 } : Room) (PW D (tyw cI cJ cZ) (wM ad cI cJ cZ σ) [.ref (ad 0), .int v1]) (va_Qv (fun (u : SS) => u = res) (fun u t => va_P D vwCl (wM ad cI cJ cZ u) t.heap) (aM ad)) 0 0 (aM ad) := by
  refine Met.ofW (cc := cX8_findFar) (maxL := 5) (ret := none) (by decide) rfl ?_
  intro p e s m args below meth c s₁ B hml hv
  obtain ⟨rfl, hP, hK, hD0⟩ := hv
  have hD : ∀ σ, va_D (aM ad) (wM ad cI cJ cZ σ) := fun σ => wd_D hD0 (wM_map _ _ _ _ _) (wM_map _ _ _ _ _)
  have hm : mx p s m _ meth c cX8_findFar 5 none wsX8_findFar RX8 := ⟨B.exec, B.bytes, B.returns, hml, findClass_of_methodNamed B.named, atoms_spec (ws := wsX8_findFar) B.pre, B.notSynchronized⟩
  have hl := lv_entry ([.ref (ad 0), .int v1]) (n := 5) (Nat.le_of_ble_eq_true rfl)
  rw [lg_entry_eq]
  generalize (lg_sl ([.ref (ad 0), .int v1]) ++ List.replicate (5 - (lg_sl ([.ref (ad 0), .int v1])).length) Slot.unset).toArray = ls at hl ⊢
  exact w_X8_findFar_0 hm ⟨Nat.le_refl _, Nat.le_refl _⟩ hK hD v1 σ hf _ _ _ hP va_S.rf hl
/-! CallGraphsModel.way(II)I -/
theorem in_X8_way_X8 : ∀ w ∈ u_ws RX8 TX8 50, w ∈ wsX8_way := fun w h => List.mem_cons_of_mem _ (List.mem_append_right _ h)
def p_X8_way_28 (σ : SS) : Option (Int32 × SS) := some ((-1), σ)
set_option maxHeartbeats 4000000 in
set_option maxRecDepth 100000 in
theorem w_X8_way_28 {p : Program} {l : Launch} {e : Env} {R : Room} {s : State} {m : MethodId} {args : Array Value} {below : List Frame} {meth : Method} {c : Code} {D : va_G} {ad : Nat → Nat} {cI cJ cZ : ClassId} {res : Int32 × SS} (hm : mx p s m args meth c cX8_way 7 (some .int) wsX8_way RX8) (hR : 7 ≤ R.frames ∧ 175 ≤ R.locals) (hK : va_K D vwCl (tyw cI cJ cZ) s) (hD : ∀ σ, va_D (aM ad) (wM ad cI cJ cZ σ)) (σ : SS) (hf : p_X8_way_28 σ = some res) (H : Heap) (locs : List Loc) (ls : Array Slot) (hP : va_P D vwCl (wM ad cI cJ cZ σ) H) (hS : va_S (aM ad) s.heap H locs) (hl : lv_has ls 7 []) : W p l e R s m args below meth c H locs 0 0 (MQ below (va_Qi (fun (r : Int32) (u : SS) => (r, u) = res) (fun u t => va_P D vwCl (wM ad cI cJ cZ u) t.heap) (aM ad)) args s 0 0 (aM ad)) (F0 m 28 ls []) := by
  obtain ⟨hx, hb, hr, hml, hown, hts, hlk⟩ := id hm
  unfold p_X8_way_28 at hf
  refine lv_iconst (v := (-1)) hx hb dX8_way_28 (by decide) ?_
  exact rt_i (wd := wM ad cI cJ cZ) hx hb hr hlk (Option.some.inj hf) hP hS dX8_way_29
def p_X8_way_87 (k45 : Int32 → Int32 → Int32 → SS → Option (Int32 × SS)) (v2 : Int32) (v4 : Int32) (t0 : Int32) (σ : SS) : Option (Int32 × SS) := k45 v2 t0 (v4 + (-1)) σ
set_option maxHeartbeats 4000000 in
set_option maxRecDepth 100000 in
theorem w_X8_way_87 {p : Program} {l : Launch} {e : Env} {R : Room} {s : State} {m : MethodId} {args : Array Value} {below : List Frame} {meth : Method} {c : Code} {D : va_G} {ad : Nat → Nat} {cI cJ cZ : ClassId} {res : Int32 × SS} (hm : mx p s m args meth c cX8_way 7 (some .int) wsX8_way RX8) (hR : 7 ≤ R.frames ∧ 175 ≤ R.locals) (hK : va_K D vwCl (tyw cI cJ cZ) s) (hD : ∀ σ, va_D (aM ad) (wM ad cI cJ cZ σ)) (k45 : Int32 → Int32 → Int32 → SS → Option (Int32 × SS)) (hk45 : ∀ (v2 : Int32) (v3 : Int32) (v4 : Int32) (σ : SS), k45 v2 v3 v4 σ = some res → ∀ (H : Heap) (locs : List Loc) (ls : Array Slot), va_P D vwCl (wM ad cI cJ cZ σ) H → va_S (aM ad) s.heap H locs → lv_has ls 7 [(0, .ref (ad 0)), (2, .int v2), (3, .int v3), (4, .int v4)] → W p l e R s m args below meth c H locs 0 0 (MQ below (va_Qi (fun (r : Int32) (u : SS) => (r, u) = res) (fun u t => va_P D vwCl (wM ad cI cJ cZ u) t.heap) (aM ad)) args s 0 0 (aM ad)) (F0 m 45 ls [])) (v2 : Int32) (v4 : Int32) (t0 : Int32) (σ : SS) (hf : p_X8_way_87 k45 v2 v4 t0 σ = some res) (H : Heap) (locs : List Loc) (ls : Array Slot) (hP : va_P D vwCl (wM ad cI cJ cZ σ) H) (hS : va_S (aM ad) s.heap H locs) (hl : lv_has ls 7 [(0, .ref (ad 0)), (2, .int v2), (4, .int v4)]) : W p l e R s m args below meth c H locs 0 0 (MQ below (va_Qi (fun (r : Int32) (u : SS) => (r, u) = res) (fun u t => va_P D vwCl (wM ad cI cJ cZ u) t.heap) (aM ad)) args s 0 0 (aM ad)) (F0 m 87 ls [.int t0]) := by
  obtain ⟨hx, hb, hr, hml, hown, hts, hlk⟩ := id hm
  unfold p_X8_way_87 at hf
  refine lv_istore_n (lv' := [(3, .int t0), (0, .ref (ad 0)), (2, .int v2), (4, .int v4)]) hx hb dX8_way_87 rfl hl (by decide) rfl (fun ls hl => ?_)
  refine lv_iinc (v := (v4 + (-1))) (lv' := [(4, .int (v4 + (-1))), (3, .int t0), (0, .ref (ad 0)), (2, .int v2)]) hx hb dX8_way_88 hl (k := 3) rfl rfl (by decide) rfl (fun ls hl => ?_)
  refine lv_goto (tgt := 45) hx hb dX8_way_91 (by decide) ?_
  exact hk45 v2 t0 (v4 + (-1)) σ hf _ _ _ hP hS (lv_sub hl [2, 3, 1, 0] rfl)
def p_X8_way_81 (k45 : Int32 → Int32 → Int32 → SS → Option (Int32 × SS)) (v2 : Int32) (v4 : Int32) (σ : SS) : Option (Int32 × SS) := p_X8_way_87 k45 v2 v4 v4 σ
set_option maxHeartbeats 4000000 in
set_option maxRecDepth 100000 in
theorem w_X8_way_81 {p : Program} {l : Launch} {e : Env} {R : Room} {s : State} {m : MethodId} {args : Array Value} {below : List Frame} {meth : Method} {c : Code} {D : va_G} {ad : Nat → Nat} {cI cJ cZ : ClassId} {res : Int32 × SS} (hm : mx p s m args meth c cX8_way 7 (some .int) wsX8_way RX8) (hR : 7 ≤ R.frames ∧ 175 ≤ R.locals) (hK : va_K D vwCl (tyw cI cJ cZ) s) (hD : ∀ σ, va_D (aM ad) (wM ad cI cJ cZ σ)) (k45 : Int32 → Int32 → Int32 → SS → Option (Int32 × SS)) (hk45 : ∀ (v2 : Int32) (v3 : Int32) (v4 : Int32) (σ : SS), k45 v2 v3 v4 σ = some res → ∀ (H : Heap) (locs : List Loc) (ls : Array Slot), va_P D vwCl (wM ad cI cJ cZ σ) H → va_S (aM ad) s.heap H locs → lv_has ls 7 [(0, .ref (ad 0)), (2, .int v2), (3, .int v3), (4, .int v4)] → W p l e R s m args below meth c H locs 0 0 (MQ below (va_Qi (fun (r : Int32) (u : SS) => (r, u) = res) (fun u t => va_P D vwCl (wM ad cI cJ cZ u) t.heap) (aM ad)) args s 0 0 (aM ad)) (F0 m 45 ls [])) (v2 : Int32) (v4 : Int32) (σ : SS) (hf : p_X8_way_81 k45 v2 v4 σ = some res) (H : Heap) (locs : List Loc) (ls : Array Slot) (hP : va_P D vwCl (wM ad cI cJ cZ σ) H) (hS : va_S (aM ad) s.heap H locs) (hl : lv_has ls 7 [(0, .ref (ad 0)), (2, .int v2), (4, .int v4)]) : W p l e R s m args below meth c H locs 0 0 (MQ below (va_Qi (fun (r : Int32) (u : SS) => (r, u) = res) (fun u t => va_P D vwCl (wM ad cI cJ cZ u) t.heap) (aM ad)) args s 0 0 (aM ad)) (F0 m 81 ls []) := by
  obtain ⟨hx, hb, hr, hml, hown, hts, hlk⟩ := id hm
  unfold p_X8_way_81 at hf
  refine lv_iload hx hb dX8_way_81 (lv_at hl 2 rfl) ?_
  refine lv_goto (tgt := 87) hx hb dX8_way_83 (by decide) ?_
  exact w_X8_way_87 hm hR hK hD k45 hk45 v2 v4 v4 σ hf _ _ _ hP hS (lv_sub hl [0, 1, 2] rfl)
def p_X8_way_86 (k45 : Int32 → Int32 → Int32 → SS → Option (Int32 × SS)) (v2 : Int32) (v3 : Int32) (v4 : Int32) (σ : SS) : Option (Int32 × SS) := p_X8_way_87 k45 v2 v4 v3 σ
set_option maxHeartbeats 4000000 in
set_option maxRecDepth 100000 in
theorem w_X8_way_86 {p : Program} {l : Launch} {e : Env} {R : Room} {s : State} {m : MethodId} {args : Array Value} {below : List Frame} {meth : Method} {c : Code} {D : va_G} {ad : Nat → Nat} {cI cJ cZ : ClassId} {res : Int32 × SS} (hm : mx p s m args meth c cX8_way 7 (some .int) wsX8_way RX8) (hR : 7 ≤ R.frames ∧ 175 ≤ R.locals) (hK : va_K D vwCl (tyw cI cJ cZ) s) (hD : ∀ σ, va_D (aM ad) (wM ad cI cJ cZ σ)) (k45 : Int32 → Int32 → Int32 → SS → Option (Int32 × SS)) (hk45 : ∀ (v2 : Int32) (v3 : Int32) (v4 : Int32) (σ : SS), k45 v2 v3 v4 σ = some res → ∀ (H : Heap) (locs : List Loc) (ls : Array Slot), va_P D vwCl (wM ad cI cJ cZ σ) H → va_S (aM ad) s.heap H locs → lv_has ls 7 [(0, .ref (ad 0)), (2, .int v2), (3, .int v3), (4, .int v4)] → W p l e R s m args below meth c H locs 0 0 (MQ below (va_Qi (fun (r : Int32) (u : SS) => (r, u) = res) (fun u t => va_P D vwCl (wM ad cI cJ cZ u) t.heap) (aM ad)) args s 0 0 (aM ad)) (F0 m 45 ls [])) (v2 : Int32) (v3 : Int32) (v4 : Int32) (σ : SS) (hf : p_X8_way_86 k45 v2 v3 v4 σ = some res) (H : Heap) (locs : List Loc) (ls : Array Slot) (hP : va_P D vwCl (wM ad cI cJ cZ σ) H) (hS : va_S (aM ad) s.heap H locs) (hl : lv_has ls 7 [(0, .ref (ad 0)), (2, .int v2), (3, .int v3), (4, .int v4)]) : W p l e R s m args below meth c H locs 0 0 (MQ below (va_Qi (fun (r : Int32) (u : SS) => (r, u) = res) (fun u t => va_P D vwCl (wM ad cI cJ cZ u) t.heap) (aM ad)) args s 0 0 (aM ad)) (F0 m 86 ls []) := by
  obtain ⟨hx, hb, hr, hml, hown, hts, hlk⟩ := id hm
  unfold p_X8_way_86 at hf
  refine lv_iload_n hx hb dX8_way_86 rfl (lv_at hl 2 rfl) ?_
  exact w_X8_way_87 hm hR hK hD k45 hk45 v2 v4 v3 σ hf _ _ _ hP hS (lv_sub hl [0, 1, 3] rfl)
def p_X8_way_166 (k109 : Int32 → Int32 → Int32 → SS → Option (Int32 × SS)) (k126 : Int32 → Int32 → Int32 → Int32 → Int32 → SS → Option (Int32 × SS)) (v2 : Int32) (v3 : Int32) (v4 : Int32) (v6 : Int32) (t0 : Int32) (σ : SS) : Option (Int32 × SS) := k126 v2 v3 v4 t0 (v6 + (-1)) σ
set_option maxHeartbeats 4000000 in
set_option maxRecDepth 100000 in
theorem w_X8_way_166 {p : Program} {l : Launch} {e : Env} {R : Room} {s : State} {m : MethodId} {args : Array Value} {below : List Frame} {meth : Method} {c : Code} {D : va_G} {ad : Nat → Nat} {cI cJ cZ : ClassId} {res : Int32 × SS} (hm : mx p s m args meth c cX8_way 7 (some .int) wsX8_way RX8) (hR : 7 ≤ R.frames ∧ 175 ≤ R.locals) (hK : va_K D vwCl (tyw cI cJ cZ) s) (hD : ∀ σ, va_D (aM ad) (wM ad cI cJ cZ σ)) (k109 : Int32 → Int32 → Int32 → SS → Option (Int32 × SS)) (hk109 : ∀ (v2 : Int32) (v3 : Int32) (v4 : Int32) (σ : SS), k109 v2 v3 v4 σ = some res → ∀ (H : Heap) (locs : List Loc) (ls : Array Slot), va_P D vwCl (wM ad cI cJ cZ σ) H → va_S (aM ad) s.heap H locs → lv_has ls 7 [(0, .ref (ad 0)), (2, .int v2), (3, .int v3), (4, .int v4)] → W p l e R s m args below meth c H locs 0 0 (MQ below (va_Qi (fun (r : Int32) (u : SS) => (r, u) = res) (fun u t => va_P D vwCl (wM ad cI cJ cZ u) t.heap) (aM ad)) args s 0 0 (aM ad)) (F0 m 109 ls [])) (k126 : Int32 → Int32 → Int32 → Int32 → Int32 → SS → Option (Int32 × SS)) (hk126 : ∀ (v2 : Int32) (v3 : Int32) (v4 : Int32) (v5 : Int32) (v6 : Int32) (σ : SS), k126 v2 v3 v4 v5 v6 σ = some res → ∀ (H : Heap) (locs : List Loc) (ls : Array Slot), va_P D vwCl (wM ad cI cJ cZ σ) H → va_S (aM ad) s.heap H locs → lv_has ls 7 [(0, .ref (ad 0)), (2, .int v2), (3, .int v3), (4, .int v4), (5, .int v5), (6, .int v6)] → W p l e R s m args below meth c H locs 0 0 (MQ below (va_Qi (fun (r : Int32) (u : SS) => (r, u) = res) (fun u t => va_P D vwCl (wM ad cI cJ cZ u) t.heap) (aM ad)) args s 0 0 (aM ad)) (F0 m 126 ls [])) (v2 : Int32) (v3 : Int32) (v4 : Int32) (v6 : Int32) (t0 : Int32) (σ : SS) (hf : p_X8_way_166 k109 k126 v2 v3 v4 v6 t0 σ = some res) (H : Heap) (locs : List Loc) (ls : Array Slot) (hP : va_P D vwCl (wM ad cI cJ cZ σ) H) (hS : va_S (aM ad) s.heap H locs) (hl : lv_has ls 7 [(0, .ref (ad 0)), (2, .int v2), (3, .int v3), (4, .int v4), (6, .int v6)]) : W p l e R s m args below meth c H locs 0 0 (MQ below (va_Qi (fun (r : Int32) (u : SS) => (r, u) = res) (fun u t => va_P D vwCl (wM ad cI cJ cZ u) t.heap) (aM ad)) args s 0 0 (aM ad)) (F0 m 166 ls [.int t0]) := by
  obtain ⟨hx, hb, hr, hml, hown, hts, hlk⟩ := id hm
  unfold p_X8_way_166 at hf
  refine lv_istore (lv' := [(5, .int t0), (0, .ref (ad 0)), (2, .int v2), (3, .int v3), (4, .int v4), (6, .int v6)]) hx hb dX8_way_166 hl (by decide) rfl (fun ls hl => ?_)
  refine lv_iinc (v := (v6 + (-1))) (lv' := [(6, .int (v6 + (-1))), (5, .int t0), (0, .ref (ad 0)), (2, .int v2), (3, .int v3), (4, .int v4)]) hx hb dX8_way_168 hl (k := 5) rfl rfl (by decide) rfl (fun ls hl => ?_)
  refine lv_goto (tgt := 126) hx hb dX8_way_171 (by decide) ?_
  exact hk126 v2 v3 v4 t0 (v6 + (-1)) σ hf _ _ _ hP hS (lv_sub hl [2, 3, 4, 5, 1, 0] rfl)
def p_X8_way_164 (k109 : Int32 → Int32 → Int32 → SS → Option (Int32 × SS)) (k126 : Int32 → Int32 → Int32 → Int32 → Int32 → SS → Option (Int32 × SS)) (v2 : Int32) (v3 : Int32) (v4 : Int32) (v5 : Int32) (v6 : Int32) (σ : SS) : Option (Int32 × SS) := p_X8_way_166 k109 k126 v2 v3 v4 v6 v5 σ
set_option maxHeartbeats 4000000 in
set_option maxRecDepth 100000 in
theorem w_X8_way_164 {p : Program} {l : Launch} {e : Env} {R : Room} {s : State} {m : MethodId} {args : Array Value} {below : List Frame} {meth : Method} {c : Code} {D : va_G} {ad : Nat → Nat} {cI cJ cZ : ClassId} {res : Int32 × SS} (hm : mx p s m args meth c cX8_way 7 (some .int) wsX8_way RX8) (hR : 7 ≤ R.frames ∧ 175 ≤ R.locals) (hK : va_K D vwCl (tyw cI cJ cZ) s) (hD : ∀ σ, va_D (aM ad) (wM ad cI cJ cZ σ)) (k109 : Int32 → Int32 → Int32 → SS → Option (Int32 × SS)) (hk109 : ∀ (v2 : Int32) (v3 : Int32) (v4 : Int32) (σ : SS), k109 v2 v3 v4 σ = some res → ∀ (H : Heap) (locs : List Loc) (ls : Array Slot), va_P D vwCl (wM ad cI cJ cZ σ) H → va_S (aM ad) s.heap H locs → lv_has ls 7 [(0, .ref (ad 0)), (2, .int v2), (3, .int v3), (4, .int v4)] → W p l e R s m args below meth c H locs 0 0 (MQ below (va_Qi (fun (r : Int32) (u : SS) => (r, u) = res) (fun u t => va_P D vwCl (wM ad cI cJ cZ u) t.heap) (aM ad)) args s 0 0 (aM ad)) (F0 m 109 ls [])) (k126 : Int32 → Int32 → Int32 → Int32 → Int32 → SS → Option (Int32 × SS)) (hk126 : ∀ (v2 : Int32) (v3 : Int32) (v4 : Int32) (v5 : Int32) (v6 : Int32) (σ : SS), k126 v2 v3 v4 v5 v6 σ = some res → ∀ (H : Heap) (locs : List Loc) (ls : Array Slot), va_P D vwCl (wM ad cI cJ cZ σ) H → va_S (aM ad) s.heap H locs → lv_has ls 7 [(0, .ref (ad 0)), (2, .int v2), (3, .int v3), (4, .int v4), (5, .int v5), (6, .int v6)] → W p l e R s m args below meth c H locs 0 0 (MQ below (va_Qi (fun (r : Int32) (u : SS) => (r, u) = res) (fun u t => va_P D vwCl (wM ad cI cJ cZ u) t.heap) (aM ad)) args s 0 0 (aM ad)) (F0 m 126 ls [])) (v2 : Int32) (v3 : Int32) (v4 : Int32) (v5 : Int32) (v6 : Int32) (σ : SS) (hf : p_X8_way_164 k109 k126 v2 v3 v4 v5 v6 σ = some res) (H : Heap) (locs : List Loc) (ls : Array Slot) (hP : va_P D vwCl (wM ad cI cJ cZ σ) H) (hS : va_S (aM ad) s.heap H locs) (hl : lv_has ls 7 [(0, .ref (ad 0)), (2, .int v2), (3, .int v3), (4, .int v4), (5, .int v5), (6, .int v6)]) : W p l e R s m args below meth c H locs 0 0 (MQ below (va_Qi (fun (r : Int32) (u : SS) => (r, u) = res) (fun u t => va_P D vwCl (wM ad cI cJ cZ u) t.heap) (aM ad)) args s 0 0 (aM ad)) (F0 m 164 ls []) := by
  obtain ⟨hx, hb, hr, hml, hown, hts, hlk⟩ := id hm
  unfold p_X8_way_164 at hf
  refine lv_iload hx hb dX8_way_164 (lv_at hl 4 rfl) ?_
  exact w_X8_way_166 hm hR hK hD k109 hk109 k126 hk126 v2 v3 v4 v6 v5 σ hf _ _ _ hP hS (lv_sub hl [0, 1, 2, 3, 5] rfl)
def p_X8_way_126 (k109 : Int32 → Int32 → Int32 → SS → Option (Int32 × SS)) : Nat → Int32 → Int32 → Int32 → Int32 → Int32 → SS → Option (Int32 × SS)
  | 0, _, _, _, _, _, _ => none
  | n + 1, v2, v3, v4, v5, v6, σ => let k126 := p_X8_way_126 k109 n; if v6 < 0 then k109 v2 v5 (v4 + 1) σ else oi v6 48 (oi v3 48 (if (σ.1 27 v6.toNatClampNeg) = ((σ.1 27 v3.toNatClampNeg) - 1) then oc (p_X8_isCallee_0 σ v3 v6) (fun r_153 => if r_153 = 0 then p_X8_way_164 k109 k126 v2 v3 v4 v5 v6 σ else p_X8_way_166 k109 k126 v2 v3 v4 v6 v6 σ) else p_X8_way_164 k109 k126 v2 v3 v4 v5 v6 σ))
set_option maxHeartbeats 4000000 in
set_option maxRecDepth 100000 in
theorem w_X8_way_126 {p : Program} {l : Launch} {e : Env} {R : Room} {s : State} {m : MethodId} {args : Array Value} {below : List Frame} {meth : Method} {c : Code} {D : va_G} {ad : Nat → Nat} {cI cJ cZ : ClassId} {res : Int32 × SS} (hm : mx p s m args meth c cX8_way 7 (some .int) wsX8_way RX8) (hR : 7 ≤ R.frames ∧ 175 ≤ R.locals) (hK : va_K D vwCl (tyw cI cJ cZ) s) (hD : ∀ σ, va_D (aM ad) (wM ad cI cJ cZ σ)) (k109 : Int32 → Int32 → Int32 → SS → Option (Int32 × SS)) (hk109 : ∀ (v2 : Int32) (v3 : Int32) (v4 : Int32) (σ : SS), k109 v2 v3 v4 σ = some res → ∀ (H : Heap) (locs : List Loc) (ls : Array Slot), va_P D vwCl (wM ad cI cJ cZ σ) H → va_S (aM ad) s.heap H locs → lv_has ls 7 [(0, .ref (ad 0)), (2, .int v2), (3, .int v3), (4, .int v4)] → W p l e R s m args below meth c H locs 0 0 (MQ below (va_Qi (fun (r : Int32) (u : SS) => (r, u) = res) (fun u t => va_P D vwCl (wM ad cI cJ cZ u) t.heap) (aM ad)) args s 0 0 (aM ad)) (F0 m 109 ls [])) : ∀ (n : Nat) (v2 : Int32) (v3 : Int32) (v4 : Int32) (v5 : Int32) (v6 : Int32) (σ : SS), p_X8_way_126 k109 n v2 v3 v4 v5 v6 σ = some res → ∀ (H : Heap) (locs : List Loc) (ls : Array Slot), va_P D vwCl (wM ad cI cJ cZ σ) H → va_S (aM ad) s.heap H locs → lv_has ls 7 [(0, .ref (ad 0)), (2, .int v2), (3, .int v3), (4, .int v4), (5, .int v5), (6, .int v6)] → W p l e R s m args below meth c H locs 0 0 (MQ below (va_Qi (fun (r : Int32) (u : SS) => (r, u) = res) (fun u t => va_P D vwCl (wM ad cI cJ cZ u) t.heap) (aM ad)) args s 0 0 (aM ad)) (F0 m 126 ls []) := by
  obtain ⟨hx, hb, hr, hml, hown, hts, hlk⟩ := id hm
  intro n
  induction n with
  | zero =>
    intro _ _ _ _ _ _ hf
    cases hf
  | succ n hk126 =>
    intro v2 v3 v4 v5 v6 σ hf H locs ls hP hS hl
    rw [p_X8_way_126] at hf
    try dsimp only at hf
    refine lv_iload hx hb dX8_way_126 (lv_at hl 5 rfl) ?_
    refine lv_if_lt (tgt := 174) hx hb dX8_way_128 (by decide) (fun c_128 => ?_) (fun c_128 => ?_)
    · rw [if_pos c_128] at hf
      refine lv_iload hx hb dX8_way_174 (lv_at hl 4 rfl) ?_
      refine lv_istore_n (lv' := [(3, .int v5), (0, .ref (ad 0)), (2, .int v2), (4, .int v4), (5, .int v5), (6, .int v6)]) hx hb dX8_way_176 rfl hl (by decide) rfl (fun ls hl => ?_)
      refine lv_iinc (v := (v4 + 1)) (lv' := [(4, .int (v4 + 1)), (3, .int v5), (0, .ref (ad 0)), (2, .int v2), (5, .int v5), (6, .int v6)]) hx hb dX8_way_177 hl (k := 3) rfl rfl (by decide) rfl (fun ls hl => ?_)
      refine lv_goto (tgt := 109) hx hb dX8_way_180 (by decide) ?_
      exact hk109 v2 v5 (v4 + 1) σ hf _ _ _ hP hS (lv_sub hl [2, 3, 1, 0] rfl)
    · rw [if_neg c_128] at hf
      refine lv_aload_n hx hb dX8_way_131 rfl (lv_at hl 0 rfl) ?_
      refine va_get (D := D) (ci := 7) (v := .ref (ad 27)) (C := RX8) (T := TX8) (N := 50) hx hb hts in_X8_way_X8 hown hK hP 0 (wM_0 _ _ _ _ _) rfl 32 (by decide) (hts (.fieldLink RX8 89 "CallGraphsModel" "far" "[I") (List.mem_of_getElem? (i := 4) rfl)) (fun _ h9 => h9) (fM_0_32 _ _) dX8_way_132 ?_
      refine lv_iload hx hb dX8_way_135 (lv_at hl 5 rfl) ?_
      obtain ⟨h_137, hf⟩ := oi_e hf
      refine va_iald hx hb hK hP 27 0 (wM_27 _ _ _ _ _) rfl h_137 dX8_way_137 ?_
      refine lv_aload_n hx hb dX8_way_138 rfl (lv_at hl 0 rfl) ?_
      refine va_get (D := D) (ci := 7) (v := .ref (ad 27)) (C := RX8) (T := TX8) (N := 50) hx hb hts in_X8_way_X8 hown hK hP 0 (wM_0 _ _ _ _ _) rfl 32 (by decide) (hts (.fieldLink RX8 89 "CallGraphsModel" "far" "[I") (List.mem_of_getElem? (i := 4) rfl)) (fun _ h9 => h9) (fM_0_32 _ _) dX8_way_139 ?_
      refine lv_iload_n hx hb dX8_way_142 rfl (lv_at hl 2 rfl) ?_
      obtain ⟨h_143, hf⟩ := oi_e hf
      refine va_iald hx hb hK hP 27 0 (wM_27 _ _ _ _ _) rfl h_143 dX8_way_143 ?_
      refine lv_iconst (v := 1) hx hb dX8_way_144 (by decide) ?_
      refine lv_isub hx hb dX8_way_145 ?_
      refine lv_icmp_ne (tgt := 164) hx hb dX8_way_146 (by decide) (fun c_146 => ?_) (fun c_146 => ?_)
      · rw [if_neg c_146] at hf
        exact w_X8_way_164 hm hR hK hD k109 hk109 (p_X8_way_126 k109 n) hk126 v2 v3 v4 v5 v6 σ hf _ _ _ hP hS (lv_sub hl [0, 1, 2, 3, 4, 5] rfl)
      · rw [if_pos c_146] at hf
        refine lv_aload_n hx hb dX8_way_149 rfl (lv_at hl 0 rfl) ?_
        refine lv_iload_n hx hb dX8_way_150 rfl (lv_at hl 2 rfl) ?_
        refine lv_iload hx hb dX8_way_151 (lv_at hl 5 rfl) ?_
        obtain ⟨r_153, hg_153, hf⟩ := oc_e hf
        refine mV_ri (wd := wM ad cI cJ cZ) (σ := σ) (As := [.int v3, .int v6]) (rest := []) ⟨hx, hb, hml, hown, hts⟩ hK hP hD hS (c_X8_isCallee l D ad cI cJ cZ σ v3 v6 hg_153) (cwV 2 hts gX8_way_X8_isCallee rfl rfl rfl hd_X8_isCallee ⟨Nat.le_trans (Nat.le_of_ble_eq_true rfl) hR.1, Nat.le_trans (Nat.le_of_ble_eq_true rfl) hR.2⟩) rfl (wM_0 _ _ _ _ _) rfl hl.1 rfl (Nat.le_of_ble_eq_true rfl) dX8_way_153 (fun H locs hP hS => ?_)
        refine lv_if_eq (tgt := 164) hx hb dX8_way_156 (by decide) (fun c_156 => ?_) (fun c_156 => ?_)
        · rw [if_pos c_156] at hf
          exact w_X8_way_164 hm hR hK hD k109 hk109 (p_X8_way_126 k109 n) hk126 v2 v3 v4 v5 v6 σ hf _ _ _ hP hS (lv_sub hl [0, 1, 2, 3, 4, 5] rfl)
        · rw [if_neg c_156] at hf
          refine lv_iload hx hb dX8_way_159 (lv_at hl 5 rfl) ?_
          refine lv_goto (tgt := 166) hx hb dX8_way_161 (by decide) ?_
          exact w_X8_way_166 hm hR hK hD k109 hk109 (p_X8_way_126 k109 n) hk126 v2 v3 v4 v6 v6 σ hf _ _ _ hP hS (lv_sub hl [0, 1, 2, 3, 5] rfl)
def p_X8_way_109 : Nat → Int32 → Int32 → Int32 → SS → Option (Int32 × SS)
  | 0, _, _, _, _ => none
  | n + 1, v2, v3, v4, σ => let k109 := p_X8_way_109 n; if v2 ≤ v4 then some (v3, σ) else p_X8_way_126 k109 100000 v2 v3 v4 (-1) ((σ.1 0 5) - 1) σ
set_option maxHeartbeats 4000000 in
set_option maxRecDepth 100000 in
theorem w_X8_way_109 {p : Program} {l : Launch} {e : Env} {R : Room} {s : State} {m : MethodId} {args : Array Value} {below : List Frame} {meth : Method} {c : Code} {D : va_G} {ad : Nat → Nat} {cI cJ cZ : ClassId} {res : Int32 × SS} (hm : mx p s m args meth c cX8_way 7 (some .int) wsX8_way RX8) (hR : 7 ≤ R.frames ∧ 175 ≤ R.locals) (hK : va_K D vwCl (tyw cI cJ cZ) s) (hD : ∀ σ, va_D (aM ad) (wM ad cI cJ cZ σ)) : ∀ (n : Nat) (v2 : Int32) (v3 : Int32) (v4 : Int32) (σ : SS), p_X8_way_109 n v2 v3 v4 σ = some res → ∀ (H : Heap) (locs : List Loc) (ls : Array Slot), va_P D vwCl (wM ad cI cJ cZ σ) H → va_S (aM ad) s.heap H locs → lv_has ls 7 [(0, .ref (ad 0)), (2, .int v2), (3, .int v3), (4, .int v4)] → W p l e R s m args below meth c H locs 0 0 (MQ below (va_Qi (fun (r : Int32) (u : SS) => (r, u) = res) (fun u t => va_P D vwCl (wM ad cI cJ cZ u) t.heap) (aM ad)) args s 0 0 (aM ad)) (F0 m 109 ls []) := by
  obtain ⟨hx, hb, hr, hml, hown, hts, hlk⟩ := id hm
  intro n
  induction n with
  | zero =>
    intro _ _ _ _ hf
    cases hf
  | succ n hk109 =>
    intro v2 v3 v4 σ hf H locs ls hP hS hl
    rw [p_X8_way_109] at hf
    try dsimp only at hf
    refine lv_iload hx hb dX8_way_109 (lv_at hl 3 rfl) ?_
    refine lv_iload_n hx hb dX8_way_111 rfl (lv_at hl 1 rfl) ?_
    refine lv_icmp_ge (tgt := 183) hx hb dX8_way_112 (by decide) (fun c_112 => ?_) (fun c_112 => ?_)
    · rw [if_pos c_112] at hf
      refine lv_iload_n hx hb dX8_way_183 rfl (lv_at hl 2 rfl) ?_
      exact rt_i (wd := wM ad cI cJ cZ) hx hb hr hlk (Option.some.inj hf) hP hS dX8_way_184
    · rw [if_neg c_112] at hf
      refine lv_iconst (v := (-1)) hx hb dX8_way_115 (by decide) ?_
      refine lv_istore (lv' := [(5, .int (-1)), (0, .ref (ad 0)), (2, .int v2), (3, .int v3), (4, .int v4)]) hx hb dX8_way_116 hl (by decide) rfl (fun ls hl => ?_)
      refine lv_aload_n hx hb dX8_way_118 rfl (lv_at hl 1 rfl) ?_
      refine va_get (D := D) (ci := 7) (v := .int (σ.1 0 5)) (C := RX8) (T := TX8) (N := 50) hx hb hts in_X8_way_X8 hown hK hP 0 (wM_0 _ _ _ _ _) rfl 5 (by decide) (hts (.fieldLink RX8 131 "CallGraphsModel" "members" "I") (List.mem_of_getElem? (i := 2) rfl)) (fun _ h9 => h9) (fM_0_5 _ _) dX8_way_119 ?_
      refine lv_iconst (v := 1) hx hb dX8_way_122 (by decide) ?_
      refine lv_isub hx hb dX8_way_123 ?_
      refine lv_istore (lv' := [(6, .int ((σ.1 0 5) - 1)), (5, .int (-1)), (0, .ref (ad 0)), (2, .int v2), (3, .int v3), (4, .int v4)]) hx hb dX8_way_124 hl (by decide) rfl (fun ls hl => ?_)
      exact w_X8_way_126 hm hR hK hD (p_X8_way_109 n) hk109 100000 v2 v3 v4 (-1) ((σ.1 0 5) - 1) σ hf _ _ _ hP hS (lv_sub hl [2, 3, 4, 5, 1, 0] rfl)
def p_X8_way_45 : Nat → Int32 → Int32 → Int32 → SS → Option (Int32 × SS)
  | 0, _, _, _, _ => none
  | n + 1, v2, v3, v4, σ => let k45 := p_X8_way_45 n; if v4 < 0 then oi v3 48 (if v2 ≤ (σ.1 27 v3.toNatClampNeg) then p_X8_way_109 100000 v2 v3 0 σ else some ((-1), σ)) else oi v4 48 (if (σ.1 8 v4.toNatClampNeg) = 0 then p_X8_way_86 k45 v2 v3 v4 σ else if v3 = (-1) then p_X8_way_81 k45 v2 v4 σ else oi v4 48 (oi v3 48 (if (σ.1 27 v3.toNatClampNeg) < (σ.1 27 v4.toNatClampNeg) then p_X8_way_86 k45 v2 v3 v4 σ else p_X8_way_81 k45 v2 v4 σ)))
set_option maxHeartbeats 4000000 in
set_option maxRecDepth 100000 in
theorem w_X8_way_45 {p : Program} {l : Launch} {e : Env} {R : Room} {s : State} {m : MethodId} {args : Array Value} {below : List Frame} {meth : Method} {c : Code} {D : va_G} {ad : Nat → Nat} {cI cJ cZ : ClassId} {res : Int32 × SS} (hm : mx p s m args meth c cX8_way 7 (some .int) wsX8_way RX8) (hR : 7 ≤ R.frames ∧ 175 ≤ R.locals) (hK : va_K D vwCl (tyw cI cJ cZ) s) (hD : ∀ σ, va_D (aM ad) (wM ad cI cJ cZ σ)) : ∀ (n : Nat) (v2 : Int32) (v3 : Int32) (v4 : Int32) (σ : SS), p_X8_way_45 n v2 v3 v4 σ = some res → ∀ (H : Heap) (locs : List Loc) (ls : Array Slot), va_P D vwCl (wM ad cI cJ cZ σ) H → va_S (aM ad) s.heap H locs → lv_has ls 7 [(0, .ref (ad 0)), (2, .int v2), (3, .int v3), (4, .int v4)] → W p l e R s m args below meth c H locs 0 0 (MQ below (va_Qi (fun (r : Int32) (u : SS) => (r, u) = res) (fun u t => va_P D vwCl (wM ad cI cJ cZ u) t.heap) (aM ad)) args s 0 0 (aM ad)) (F0 m 45 ls []) := by
  obtain ⟨hx, hb, hr, hml, hown, hts, hlk⟩ := id hm
  intro n
  induction n with
  | zero =>
    intro _ _ _ _ hf
    cases hf
  | succ n hk45 =>
    intro v2 v3 v4 σ hf H locs ls hP hS hl
    rw [p_X8_way_45] at hf
    try dsimp only at hf
    refine lv_iload hx hb dX8_way_45 (lv_at hl 3 rfl) ?_
    refine lv_if_lt (tgt := 94) hx hb dX8_way_47 (by decide) (fun c_47 => ?_) (fun c_47 => ?_)
    · rw [if_pos c_47] at hf
      refine lv_iload_n hx hb dX8_way_94 rfl (lv_at hl 1 rfl) ?_
      refine lv_aload_n hx hb dX8_way_95 rfl (lv_at hl 0 rfl) ?_
      refine va_get (D := D) (ci := 7) (v := .ref (ad 27)) (C := RX8) (T := TX8) (N := 50) hx hb hts in_X8_way_X8 hown hK hP 0 (wM_0 _ _ _ _ _) rfl 32 (by decide) (hts (.fieldLink RX8 89 "CallGraphsModel" "far" "[I") (List.mem_of_getElem? (i := 4) rfl)) (fun _ h9 => h9) (fM_0_32 _ _) dX8_way_96 ?_
      refine lv_iload_n hx hb dX8_way_99 rfl (lv_at hl 2 rfl) ?_
      obtain ⟨h_100, hf⟩ := oi_e hf
      refine va_iald hx hb hK hP 27 0 (wM_27 _ _ _ _ _) rfl h_100 dX8_way_100 ?_
      refine lv_icmp_le (tgt := 106) hx hb dX8_way_101 (by decide) (fun c_101 => ?_) (fun c_101 => ?_)
      · rw [if_pos c_101] at hf
        refine lv_iconst (v := 0) hx hb dX8_way_106 (by decide) ?_
        refine lv_istore (lv' := [(4, .int 0), (0, .ref (ad 0)), (2, .int v2), (3, .int v3)]) hx hb dX8_way_107 hl (by decide) rfl (fun ls hl => ?_)
        exact w_X8_way_109 hm hR hK hD 100000 v2 v3 0 σ hf _ _ _ hP hS (lv_sub hl [1, 2, 3, 0] rfl)
      · rw [if_neg c_101] at hf
        refine lv_iconst (v := (-1)) hx hb dX8_way_104 (by decide) ?_
        exact rt_i (wd := wM ad cI cJ cZ) hx hb hr hlk (Option.some.inj hf) hP hS dX8_way_105
    · rw [if_neg c_47] at hf
      refine lv_aload_n hx hb dX8_way_50 rfl (lv_at hl 0 rfl) ?_
      refine va_get (D := D) (ci := 7) (v := .ref (ad 8)) (C := RX8) (T := TX8) (N := 50) hx hb hts in_X8_way_X8 hown hK hP 0 (wM_0 _ _ _ _ _) rfl 9 (by decide) (hts (.fieldLink RX8 31 "CallGraphsModel" "isRoot" "[Z") (List.mem_of_getElem? (i := 3) rfl)) (fun _ h9 => h9) (fM_0_9 _ _) dX8_way_51 ?_
      refine lv_iload hx hb dX8_way_54 (lv_at hl 3 rfl) ?_
      obtain ⟨h_56, hf⟩ := oi_e hf
      refine va_zald hx hb hK hP 8 2 (wM_8 _ _ _ _ _) rfl h_56 dX8_way_56 ?_
      refine lv_if_eq (tgt := 86) hx hb dX8_way_57 (by decide) (fun c_57 => ?_) (fun c_57 => ?_)
      · rw [if_pos c_57] at hf
        exact w_X8_way_86 hm hR hK hD (p_X8_way_45 n) hk45 v2 v3 v4 σ hf _ _ _ hP hS (lv_sub hl [0, 1, 2, 3] rfl)
      · rw [if_neg c_57] at hf
        refine lv_iload_n hx hb dX8_way_60 rfl (lv_at hl 2 rfl) ?_
        refine lv_iconst (v := (-1)) hx hb dX8_way_61 (by decide) ?_
        refine lv_icmp_eq (tgt := 81) hx hb dX8_way_62 (by decide) (fun c_62 => ?_) (fun c_62 => ?_)
        · rw [if_pos c_62] at hf
          exact w_X8_way_81 hm hR hK hD (p_X8_way_45 n) hk45 v2 v4 σ hf _ _ _ hP hS (lv_sub hl [0, 1, 3] rfl)
        · rw [if_neg c_62] at hf
          refine lv_aload_n hx hb dX8_way_65 rfl (lv_at hl 0 rfl) ?_
          refine va_get (D := D) (ci := 7) (v := .ref (ad 27)) (C := RX8) (T := TX8) (N := 50) hx hb hts in_X8_way_X8 hown hK hP 0 (wM_0 _ _ _ _ _) rfl 32 (by decide) (hts (.fieldLink RX8 89 "CallGraphsModel" "far" "[I") (List.mem_of_getElem? (i := 4) rfl)) (fun _ h9 => h9) (fM_0_32 _ _) dX8_way_66 ?_
          refine lv_iload hx hb dX8_way_69 (lv_at hl 3 rfl) ?_
          obtain ⟨h_71, hf⟩ := oi_e hf
          refine va_iald hx hb hK hP 27 0 (wM_27 _ _ _ _ _) rfl h_71 dX8_way_71 ?_
          refine lv_aload_n hx hb dX8_way_72 rfl (lv_at hl 0 rfl) ?_
          refine va_get (D := D) (ci := 7) (v := .ref (ad 27)) (C := RX8) (T := TX8) (N := 50) hx hb hts in_X8_way_X8 hown hK hP 0 (wM_0 _ _ _ _ _) rfl 32 (by decide) (hts (.fieldLink RX8 89 "CallGraphsModel" "far" "[I") (List.mem_of_getElem? (i := 4) rfl)) (fun _ h9 => h9) (fM_0_32 _ _) dX8_way_73 ?_
          refine lv_iload_n hx hb dX8_way_76 rfl (lv_at hl 2 rfl) ?_
          obtain ⟨h_77, hf⟩ := oi_e hf
          refine va_iald hx hb hK hP 27 0 (wM_27 _ _ _ _ _) rfl h_77 dX8_way_77 ?_
          refine lv_icmp_gt (tgt := 86) hx hb dX8_way_78 (by decide) (fun c_78 => ?_) (fun c_78 => ?_)
          · rw [if_pos c_78] at hf
            exact w_X8_way_86 hm hR hK hD (p_X8_way_45 n) hk45 v2 v3 v4 σ hf _ _ _ hP hS (lv_sub hl [0, 1, 2, 3] rfl)
          · rw [if_neg c_78] at hf
            exact w_X8_way_81 hm hR hK hD (p_X8_way_45 n) hk45 v2 v4 σ hf _ _ _ hP hS (lv_sub hl [0, 1, 3] rfl)
def p_X8_way_0 (v1 : Int32) (v2 : Int32) (σ : SS) : Option (Int32 × SS) := oc (p_X8_isMember_0 σ v1) (fun r_2 => if r_2 = 0 then some ((-101), σ) else oc (p_X8_freshen_0 σ) (fun r_12 => oi v1 48 (if (r_12.1 14 v1.toNatClampNeg) = 0 then p_X8_way_28 r_12 else if 0 ≤ v2 then oc (p_X8_findFar_0 v1 r_12) (fun r_32 => p_X8_way_45 100000 v2 (-1) ((r_32.1 0 5) - 1) r_32) else p_X8_way_28 r_12)))
set_option maxHeartbeats 4000000 in
set_option maxRecDepth 100000 in
theorem w_X8_way_0 {p : Program} {l : Launch} {e : Env} {R : Room} {s : State} {m : MethodId} {args : Array Value} {below : List Frame} {meth : Method} {c : Code} {D : va_G} {ad : Nat → Nat} {cI cJ cZ : ClassId} {res : Int32 × SS} (hm : mx p s m args meth c cX8_way 7 (some .int) wsX8_way RX8) (hR : 7 ≤ R.frames ∧ 175 ≤ R.locals) (hK : va_K D vwCl (tyw cI cJ cZ) s) (hD : ∀ σ, va_D (aM ad) (wM ad cI cJ cZ σ)) (v1 : Int32) (v2 : Int32) (σ : SS) (hf : p_X8_way_0 v1 v2 σ = some res) (H : Heap) (locs : List Loc) (ls : Array Slot) (hP : va_P D vwCl (wM ad cI cJ cZ σ) H) (hS : va_S (aM ad) s.heap H locs) (hl : lv_has ls 7 [(0, .ref (ad 0)), (1, .int v1), (2, .int v2)]) : W p l e R s m args below meth c H locs 0 0 (MQ below (va_Qi (fun (r : Int32) (u : SS) => (r, u) = res) (fun u t => va_P D vwCl (wM ad cI cJ cZ u) t.heap) (aM ad)) args s 0 0 (aM ad)) (F0 m 0 ls []) := by
  obtain ⟨hx, hb, hr, hml, hown, hts, hlk⟩ := id hm
  unfold p_X8_way_0 at hf
  refine lv_aload_n hx hb dX8_way_0 rfl (lv_at hl 0 rfl) ?_
  refine lv_iload_n hx hb dX8_way_1 rfl (lv_at hl 1 rfl) ?_
  obtain ⟨r_2, hg_2, hf⟩ := oc_e hf
  refine mV_ri (wd := wM ad cI cJ cZ) (σ := σ) (As := [.int v1]) (rest := []) ⟨hx, hb, hml, hown, hts⟩ hK hP hD hS (c_X8_isMember l D ad cI cJ cZ σ v1 hg_2) (cwV 1 hts gX8_way_X8_isMember rfl rfl rfl hd_X8_isMember ⟨Nat.le_trans (Nat.le_of_ble_eq_true rfl) hR.1, Nat.le_trans (Nat.le_of_ble_eq_true rfl) hR.2⟩) rfl (wM_0 _ _ _ _ _) rfl hl.1 rfl (Nat.le_of_ble_eq_true rfl) dX8_way_2 (fun H locs hP hS => ?_)
  refine lv_if_ne (tgt := 11) hx hb dX8_way_5 (by decide) (fun c_5 => ?_) (fun c_5 => ?_)
  · rw [if_neg c_5] at hf
    refine lv_aload_n hx hb dX8_way_11 rfl (lv_at hl 0 rfl) ?_
    obtain ⟨r_12, hg_12, hf⟩ := oc_e hf
    refine mV_wv (wd := wM ad cI cJ cZ) (σ := σ) (As := []) (rest := []) ⟨hx, hb, hml, hown, hts⟩ hK hP hD hS (c_X8_freshen l D ad cI cJ cZ σ hg_12) (cwV 0 hts gX8_way_X8_freshen rfl rfl rfl hd_X8_freshen ⟨Nat.le_trans (Nat.le_of_ble_eq_true rfl) hR.1, Nat.le_trans (Nat.le_of_ble_eq_true rfl) hR.2⟩) rfl (wM_0 _ _ _ _ _) rfl hl.1 rfl (Nat.le_of_ble_eq_true rfl) dX8_way_12 (fun H locs hP hS => ?_)
    refine lv_aload_n hx hb dX8_way_15 rfl (lv_at hl 0 rfl) ?_
    refine va_get (D := D) (ci := 7) (v := .ref (ad 14)) (C := RX8) (T := TX8) (N := 50) hx hb hts in_X8_way_X8 hown hK hP 0 (wM_0 _ _ _ _ _) rfl 18 (by decide) (hts (.fieldLink RX8 50 "CallGraphsModel" "reached" "[Z") (List.mem_of_getElem? (i := 1) rfl)) (fun _ h9 => h9) (fM_0_18 _ _) dX8_way_16 ?_
    refine lv_iload_n hx hb dX8_way_19 rfl (lv_at hl 1 rfl) ?_
    obtain ⟨h_20, hf⟩ := oi_e hf
    refine va_zald hx hb hK hP 14 2 (wM_14 _ _ _ _ _) rfl h_20 dX8_way_20 ?_
    refine lv_if_eq (tgt := 28) hx hb dX8_way_21 (by decide) (fun c_21 => ?_) (fun c_21 => ?_)
    · rw [if_pos c_21] at hf
      exact w_X8_way_28 hm hR hK hD r_12 hf _ _ _ hP hS (lv_sub hl [] rfl)
    · rw [if_neg c_21] at hf
      refine lv_iload_n hx hb dX8_way_24 rfl (lv_at hl 2 rfl) ?_
      refine lv_if_ge (tgt := 30) hx hb dX8_way_25 (by decide) (fun c_25 => ?_) (fun c_25 => ?_)
      · rw [if_pos c_25] at hf
        refine lv_aload_n hx hb dX8_way_30 rfl (lv_at hl 0 rfl) ?_
        refine lv_iload_n hx hb dX8_way_31 rfl (lv_at hl 1 rfl) ?_
        obtain ⟨r_32, hg_32, hf⟩ := oc_e hf
        refine mV_wv (wd := wM ad cI cJ cZ) (σ := r_12) (As := [.int v1]) (rest := []) ⟨hx, hb, hml, hown, hts⟩ hK hP hD hS (c_X8_findFar l D ad cI cJ cZ r_12 v1 hg_32) (cwV 1 hts gX8_way_X8_findFar rfl rfl rfl hd_X8_findFar ⟨Nat.le_trans (Nat.le_of_ble_eq_true rfl) hR.1, Nat.le_trans (Nat.le_of_ble_eq_true rfl) hR.2⟩) rfl (wM_0 _ _ _ _ _) rfl hl.1 rfl (Nat.le_of_ble_eq_true rfl) dX8_way_32 (fun H locs hP hS => ?_)
        refine lv_iconst (v := (-1)) hx hb dX8_way_35 (by decide) ?_
        refine lv_istore_n (lv' := [(3, .int (-1)), (0, .ref (ad 0)), (1, .int v1), (2, .int v2)]) hx hb dX8_way_36 rfl hl (by decide) rfl (fun ls hl => ?_)
        refine lv_aload_n hx hb dX8_way_37 rfl (lv_at hl 1 rfl) ?_
        refine va_get (D := D) (ci := 7) (v := .int (r_32.1 0 5)) (C := RX8) (T := TX8) (N := 50) hx hb hts in_X8_way_X8 hown hK hP 0 (wM_0 _ _ _ _ _) rfl 5 (by decide) (hts (.fieldLink RX8 131 "CallGraphsModel" "members" "I") (List.mem_of_getElem? (i := 2) rfl)) (fun _ h9 => h9) (fM_0_5 _ _) dX8_way_38 ?_
        refine lv_iconst (v := 1) hx hb dX8_way_41 (by decide) ?_
        refine lv_isub hx hb dX8_way_42 ?_
        refine lv_istore (lv' := [(4, .int ((r_32.1 0 5) - 1)), (3, .int (-1)), (0, .ref (ad 0)), (1, .int v1), (2, .int v2)]) hx hb dX8_way_43 hl (by decide) rfl (fun ls hl => ?_)
        exact w_X8_way_45 hm hR hK hD 100000 v2 (-1) ((r_32.1 0 5) - 1) r_32 hf _ _ _ hP hS (lv_sub hl [2, 4, 1, 0] rfl)
      · rw [if_neg c_25] at hf
        exact w_X8_way_28 hm hR hK hD r_12 hf _ _ _ hP hS (lv_sub hl [] rfl)
  · rw [if_pos c_5] at hf
    refine lv_bipush (v := (-101)) hx hb dX8_way_8 (by decide) ?_
    exact rt_i (wd := wM ad cI cJ cZ) hx hb hr hlk (Option.some.inj hf) hP hS dX8_way_10
theorem hd_X8_way : yX8_way.cls = RX8 ∧ yX8_way.cls ≠ "java/lang/invoke/MethodHandle" ∧ yX8_way.cls ≠ "java/lang/invoke/VarHandle" ∧ (parseMethodDescriptor yX8_way.desc).map (fun d => d.parameters.length) = some 2 := by decide +kernel
set_option maxHeartbeats 4000000 in
set_option maxRecDepth 100000 in
theorem c_X8_way (l : Launch) (D : va_G) (ad : Nat → Nat) (cI cJ cZ : ClassId) (σ : SS) (v1 : Int32) (v2 : Int32) {res : Int32 × SS} (hf : p_X8_way_0 v1 v2 σ = some res) : Met l yX8_way wsX8_way ({ frames := 7, cells := 0, slots := 0, locals := 175 } : Room) (PW D (tyw cI cJ cZ) (wM ad cI cJ cZ σ) [.ref (ad 0), .int v1, .int v2]) (va_Qi (fun (r : Int32) (u : SS) => (r, u) = res) (fun u t => va_P D vwCl (wM ad cI cJ cZ u) t.heap) (aM ad)) 0 0 (aM ad) := by
  refine Met.ofW (cc := cX8_way) (maxL := 7) (ret := (some .int)) (by decide) rfl ?_
  intro p e s m args below meth c s₁ B hml hv
  obtain ⟨rfl, hP, hK, hD0⟩ := hv
  have hD : ∀ σ, va_D (aM ad) (wM ad cI cJ cZ σ) := fun σ => wd_D hD0 (wM_map _ _ _ _ _) (wM_map _ _ _ _ _)
  have hm : mx p s m _ meth c cX8_way 7 (some .int) wsX8_way RX8 := ⟨B.exec, B.bytes, B.returns, hml, findClass_of_methodNamed B.named, atoms_spec (ws := wsX8_way) B.pre, B.notSynchronized⟩
  have hl := lv_entry ([.ref (ad 0), .int v1, .int v2]) (n := 7) (Nat.le_of_ble_eq_true rfl)
  rw [lg_entry_eq]
  generalize (lg_sl ([.ref (ad 0), .int v1, .int v2]) ++ List.replicate (7 - (lg_sl ([.ref (ad 0), .int v1, .int v2])).length) Slot.unset).toArray = ls at hl ⊢
  exact w_X8_way_0 hm ⟨Nat.le_refl _, Nat.le_refl _⟩ hK hD v1 v2 σ hf _ _ _ hP va_S.rf hl
