/-! CallGraphs$Choices.leftOf(II)J -/
theorem in_X1_leftOf_X1 : ∀ w ∈ u_ws RX1 TX1 4, w ∈ wsX1_leftOf := fun w h => List.mem_cons_of_mem _ (List.mem_append_left _ (List.mem_append_left _ (List.mem_append_right _ h)))
def p_X1_leftOf_61 (σ : SS) (k32 : Int32 → Int32 → Int64 → Int64 → Int32 → Option (Int64)) (v1 : Int32) (v2 : Int32) (v3 : Int64) (v5 : Int64) (v7 : Int32) : Option (Int64) := k32 v1 v2 v3 v5 (v7 + 1)
set_option maxHeartbeats 4000000 in
set_option maxRecDepth 100000 in
theorem w_X1_leftOf_61 {p : Program} {l : Launch} {e : Env} {R : Room} {s : State} {m : MethodId} {args : Array Value} {below : List Frame} {meth : Method} {c : Code} {D : va_G} {ad : Nat → Nat} {cI cJ cZ : ClassId} {res : Int64} (hm : mx p s m args meth c cX1_leftOf 10 (some .long) wsX1_leftOf RX1) (hR : 1 ≤ R.frames ∧ 22 ≤ R.locals) (hK : va_K D vwCl (tyw cI cJ cZ) s) (hD : ∀ σ, va_D (aC ad) (wC ad cI cJ cZ σ)) (σ : SS) (k32 : Int32 → Int32 → Int64 → Int64 → Int32 → Option (Int64)) (hk32 : ∀ (v1 : Int32) (v2 : Int32) (v3 : Int64) (v5 : Int64) (v7 : Int32), k32 v1 v2 v3 v5 v7 = some res → ∀ (H : Heap) (locs : List Loc) (ls : Array Slot), va_P D vwCl (wC ad cI cJ cZ σ) H → va_S (aC ad) s.heap H locs → lv_has ls 10 [(0, .ref (ad 3)), (1, .int v1), (2, .int v2), (3, .long v3), (5, .long v5), (7, .int v7)] → W p l e R s m args below meth c H locs 0 0 (MQ below (va_Ql (fun (r : Int64) (u : SS) => r = res ∧ u = σ) (fun u t => va_P D vwCl (wC ad cI cJ cZ u) t.heap) (aC ad)) args s 0 0 (aC ad)) (F0 m 32 ls [])) (v1 : Int32) (v2 : Int32) (v3 : Int64) (v5 : Int64) (v7 : Int32) (hf : p_X1_leftOf_61 σ k32 v1 v2 v3 v5 v7 = some res) (H : Heap) (locs : List Loc) (ls : Array Slot) (hP : va_P D vwCl (wC ad cI cJ cZ σ) H) (hS : va_S (aC ad) s.heap H locs) (hl : lv_has ls 10 [(0, .ref (ad 3)), (1, .int v1), (2, .int v2), (3, .long v3), (5, .long v5), (7, .int v7)]) : W p l e R s m args below meth c H locs 0 0 (MQ below (va_Ql (fun (r : Int64) (u : SS) => r = res ∧ u = σ) (fun u t => va_P D vwCl (wC ad cI cJ cZ u) t.heap) (aC ad)) args s 0 0 (aC ad)) (F0 m 61 ls []) := by
  obtain ⟨hx, hb, hr, hml, hown, hts, hlk⟩ := id hm
  unfold p_X1_leftOf_61 at hf
  refine lv_iinc (v := (v7 + 1)) (lv' := [(7, .int (v7 + 1)), (0, .ref (ad 3)), (1, .int v1), (2, .int v2), (3, .long v3), (5, .long v5)]) hx hb dX1_leftOf_61 hl (k := 5) rfl rfl (by decide) rfl (fun ls hl => ?_)
  refine lv_goto (tgt := 32) hx hb dX1_leftOf_64 (by decide) ?_
  exact hk32 v1 v2 v3 v5 (v7 + 1) hf _ _ _ hP hS (lv_sub hl [1, 2, 3, 4, 5, 0] rfl)
def p_X1_leftOf_112 (σ : SS) (k73 : Int32 → Int32 → Int64 → Int64 → Int64 → Int32 → Option (Int64)) (v1 : Int32) (v2 : Int32) (v3 : Int64) (v5 : Int64) (v7 : Int64) (v9 : Int32) : Option (Int64) := k73 v1 v2 v3 v5 v7 (v9 + 1)
set_option maxHeartbeats 4000000 in
set_option maxRecDepth 100000 in
theorem w_X1_leftOf_112 {p : Program} {l : Launch} {e : Env} {R : Room} {s : State} {m : MethodId} {args : Array Value} {below : List Frame} {meth : Method} {c : Code} {D : va_G} {ad : Nat → Nat} {cI cJ cZ : ClassId} {res : Int64} (hm : mx p s m args meth c cX1_leftOf 10 (some .long) wsX1_leftOf RX1) (hR : 1 ≤ R.frames ∧ 22 ≤ R.locals) (hK : va_K D vwCl (tyw cI cJ cZ) s) (hD : ∀ σ, va_D (aC ad) (wC ad cI cJ cZ σ)) (σ : SS) (k73 : Int32 → Int32 → Int64 → Int64 → Int64 → Int32 → Option (Int64)) (hk73 : ∀ (v1 : Int32) (v2 : Int32) (v3 : Int64) (v5 : Int64) (v7 : Int64) (v9 : Int32), k73 v1 v2 v3 v5 v7 v9 = some res → ∀ (H : Heap) (locs : List Loc) (ls : Array Slot), va_P D vwCl (wC ad cI cJ cZ σ) H → va_S (aC ad) s.heap H locs → lv_has ls 10 [(0, .ref (ad 3)), (1, .int v1), (2, .int v2), (3, .long v3), (5, .long v5), (7, .long v7), (9, .int v9)] → W p l e R s m args below meth c H locs 0 0 (MQ below (va_Ql (fun (r : Int64) (u : SS) => r = res ∧ u = σ) (fun u t => va_P D vwCl (wC ad cI cJ cZ u) t.heap) (aC ad)) args s 0 0 (aC ad)) (F0 m 73 ls [])) (v1 : Int32) (v2 : Int32) (v3 : Int64) (v5 : Int64) (v7 : Int64) (v9 : Int32) (hf : p_X1_leftOf_112 σ k73 v1 v2 v3 v5 v7 v9 = some res) (H : Heap) (locs : List Loc) (ls : Array Slot) (hP : va_P D vwCl (wC ad cI cJ cZ σ) H) (hS : va_S (aC ad) s.heap H locs) (hl : lv_has ls 10 [(0, .ref (ad 3)), (1, .int v1), (2, .int v2), (3, .long v3), (5, .long v5), (7, .long v7), (9, .int v9)]) : W p l e R s m args below meth c H locs 0 0 (MQ below (va_Ql (fun (r : Int64) (u : SS) => r = res ∧ u = σ) (fun u t => va_P D vwCl (wC ad cI cJ cZ u) t.heap) (aC ad)) args s 0 0 (aC ad)) (F0 m 112 ls []) := by
  obtain ⟨hx, hb, hr, hml, hown, hts, hlk⟩ := id hm
  unfold p_X1_leftOf_112 at hf
  refine lv_iinc (v := (v9 + 1)) (lv' := [(9, .int (v9 + 1)), (0, .ref (ad 3)), (1, .int v1), (2, .int v2), (3, .long v3), (5, .long v5), (7, .long v7)]) hx hb dX1_leftOf_112 hl (k := 6) rfl rfl (by decide) rfl (fun ls hl => ?_)
  refine lv_goto (tgt := 73) hx hb dX1_leftOf_115 (by decide) ?_
  exact hk73 v1 v2 v3 v5 v7 (v9 + 1) hf _ _ _ hP hS (lv_sub hl [1, 2, 3, 4, 5, 6, 0] rfl)
def p_X1_leftOf_73 (σ : SS) : Nat → Int32 → Int32 → Int64 → Int64 → Int64 → Int32 → Option (Int64)
  | 0, _, _, _, _, _, _ => none
  | n + 1, v1, v2, v3, v5, v7, v9 => let k73 := p_X1_leftOf_73 σ n; if v1 ≤ v9 then some v7 else oc (p_X0_has_0 (v3 &&& (v5 ^^^ (-1))) v9) (fun r_89 => if r_89 = 0 then p_X1_leftOf_112 σ k73 v1 v2 v3 v5 v7 v9 else oc (p_X4_named_0 σ v9 v2) (fun r_104 => oc (p_X0_with_0 v7 r_104) (fun r_107 => p_X1_leftOf_112 σ k73 v1 v2 v3 v5 r_107 v9)))
set_option maxHeartbeats 4000000 in
set_option maxRecDepth 100000 in
theorem w_X1_leftOf_73 {p : Program} {l : Launch} {e : Env} {R : Room} {s : State} {m : MethodId} {args : Array Value} {below : List Frame} {meth : Method} {c : Code} {D : va_G} {ad : Nat → Nat} {cI cJ cZ : ClassId} {res : Int64} (hm : mx p s m args meth c cX1_leftOf 10 (some .long) wsX1_leftOf RX1) (hR : 1 ≤ R.frames ∧ 22 ≤ R.locals) (hK : va_K D vwCl (tyw cI cJ cZ) s) (hD : ∀ σ, va_D (aC ad) (wC ad cI cJ cZ σ)) (σ : SS) : ∀ (n : Nat) (v1 : Int32) (v2 : Int32) (v3 : Int64) (v5 : Int64) (v7 : Int64) (v9 : Int32), p_X1_leftOf_73 σ n v1 v2 v3 v5 v7 v9 = some res → ∀ (H : Heap) (locs : List Loc) (ls : Array Slot), va_P D vwCl (wC ad cI cJ cZ σ) H → va_S (aC ad) s.heap H locs → lv_has ls 10 [(0, .ref (ad 3)), (1, .int v1), (2, .int v2), (3, .long v3), (5, .long v5), (7, .long v7), (9, .int v9)] → W p l e R s m args below meth c H locs 0 0 (MQ below (va_Ql (fun (r : Int64) (u : SS) => r = res ∧ u = σ) (fun u t => va_P D vwCl (wC ad cI cJ cZ u) t.heap) (aC ad)) args s 0 0 (aC ad)) (F0 m 73 ls []) := by
  obtain ⟨hx, hb, hr, hml, hown, hts, hlk⟩ := id hm
  intro n
  induction n with
  | zero =>
    intro _ _ _ _ _ _ hf
    cases hf
  | succ n hk73 =>
    intro v1 v2 v3 v5 v7 v9 hf H locs ls hP hS hl
    rw [p_X1_leftOf_73] at hf
    try dsimp only at hf
    refine lv_iload hx hb dX1_leftOf_73 (lv_at hl 6 rfl) ?_
    refine lv_iload_n hx hb dX1_leftOf_75 rfl (lv_at hl 1 rfl) ?_
    refine lv_icmp_ge (tgt := 118) hx hb dX1_leftOf_76 (by decide) (fun c_76 => ?_) (fun c_76 => ?_)
    · rw [if_pos c_76] at hf
      refine lv_lload hx hb dX1_leftOf_118 (lv_at hl 5 rfl) ?_
      exact rt_l (wd := wC ad cI cJ cZ) hx hb hr hlk ⟨Option.some.inj hf, rfl⟩ hP hS dX1_leftOf_120
    · rw [if_neg c_76] at hf
      refine lv_lload_n hx hb dX1_leftOf_79 rfl (lv_at hl 3 rfl) ?_
      refine lv_lload hx hb dX1_leftOf_80 (lv_at hl 4 rfl) ?_
      refine lv_ldc2 hx hb hown (hts (.constantLong RX1 93 (-1)) (List.mem_of_getElem? (i := 3) rfl)) dX1_leftOf_82 ?_
      refine lv_lxor hx hb dX1_leftOf_85 ?_
      refine lv_land hx hb dX1_leftOf_86 ?_
      refine lv_iload hx hb dX1_leftOf_87 (lv_at hl 6 rfl) ?_
      obtain ⟨r_89, hg_89, hf⟩ := oc_e hf
      refine mS_i (D := D) (As := [.long (v3 &&& (v5 ^^^ (-1))), .int v9]) (rest := []) ⟨hx, hb, hml, hown, hts⟩ hP hS (c_X0_has l (v3 &&& (v5 ^^^ (-1))) v9 hg_89) (va_cwS 2 hts gX1_leftOf_X0_has rfl rfl rfl hd_X0_has ⟨Nat.le_trans (Nat.le_of_ble_eq_true rfl) hR.1, Nat.le_trans (Nat.le_of_ble_eq_true rfl) hR.2⟩) rfl hl.1 rfl (Nat.le_of_ble_eq_true rfl) dX1_leftOf_89 (fun H locs hP hS => ?_)
      refine lv_if_eq (tgt := 112) hx hb dX1_leftOf_92 (by decide) (fun c_92 => ?_) (fun c_92 => ?_)
      · rw [if_pos c_92] at hf
        exact w_X1_leftOf_112 hm hR hK hD σ (p_X1_leftOf_73 σ n) hk73 v1 v2 v3 v5 v7 v9 hf _ _ _ hP hS (lv_sub hl [0, 1, 2, 3, 4, 5, 6] rfl)
      · rw [if_neg c_92] at hf
        refine lv_lload hx hb dX1_leftOf_95 (lv_at hl 5 rfl) ?_
        refine lv_aload_n hx hb dX1_leftOf_97 rfl (lv_at hl 0 rfl) ?_
        refine va_get (D := D) (ci := 0) (v := .ref (ad 2)) (C := RX1) (T := TX1) (N := 4) hx hb hts in_X1_leftOf_X1 hown hK hP 3 (wC_3 _ _ _ _ _) rfl 1 (by decide) (hts (.fieldLink RX1 22 "CallGraphs$Choices" "members" "LCallGraphs$Members;") (List.mem_of_getElem? (i := 2) rfl)) (fun _ h9 => h9) (fC_3_1 _ _) dX1_leftOf_98 ?_
        refine lv_iload hx hb dX1_leftOf_101 (lv_at hl 6 rfl) ?_
        refine lv_iload_n hx hb dX1_leftOf_103 rfl (lv_at hl 2 rfl) ?_
        obtain ⟨r_104, hg_104, hf⟩ := oc_e hf
        refine mV_ri (wd := wC ad cI cJ cZ) (σ := σ) (As := [.int v9, .int v2]) (rest := [.long v7]) ⟨hx, hb, hml, hown, hts⟩ hK hP hD hS (c_X4_named l D ad cI cJ cZ σ v9 v2 hg_104) (cwV 2 hts gX1_leftOf_X4_named rfl rfl rfl hd_X4_named ⟨Nat.le_trans (Nat.le_of_ble_eq_true rfl) hR.1, Nat.le_trans (Nat.le_of_ble_eq_true rfl) hR.2⟩) rfl (wC_2 _ _ _ _ _) rfl hl.1 rfl (Nat.le_of_ble_eq_true rfl) dX1_leftOf_104 (fun H locs hP hS => ?_)
        obtain ⟨r_107, hg_107, hf⟩ := oc_e hf
        refine mS_l (D := D) (As := [.long v7, .int r_104]) (rest := []) ⟨hx, hb, hml, hown, hts⟩ hP hS (c_X0_with l v7 r_104 hg_107) (va_cwS 2 hts gX1_leftOf_X0_with rfl rfl rfl hd_X0_with ⟨Nat.le_trans (Nat.le_of_ble_eq_true rfl) hR.1, Nat.le_trans (Nat.le_of_ble_eq_true rfl) hR.2⟩) rfl hl.1 rfl (Nat.le_of_ble_eq_true rfl) dX1_leftOf_107 (fun H locs hP hS => ?_)
        refine lv_lstore (lv' := [(7, .long r_107), (0, .ref (ad 3)), (1, .int v1), (2, .int v2), (3, .long v3), (5, .long v5), (9, .int v9)]) hx hb dX1_leftOf_110 hl (by decide) rfl (fun ls hl => ?_)
        exact w_X1_leftOf_112 hm hR hK hD σ (p_X1_leftOf_73 σ n) hk73 v1 v2 v3 v5 r_107 v9 hf _ _ _ hP hS (lv_sub hl [1, 2, 3, 4, 5, 0, 6] rfl)
def p_X1_leftOf_32 (σ : SS) : Nat → Int32 → Int32 → Int64 → Int64 → Int32 → Option (Int64)
  | 0, _, _, _, _, _ => none
  | n + 1, v1, v2, v3, v5, v7 => let k32 := p_X1_leftOf_32 σ n; if v1 ≤ v7 then p_X1_leftOf_73 σ 100000 v1 v2 v3 v5 0 0 else oc (p_X0_has_0 v3 v7) (fun r_41 => if r_41 = 0 then p_X1_leftOf_61 σ k32 v1 v2 v3 v5 v7 else oc (p_X6_above_0 σ v7) (fun r_55 => p_X1_leftOf_61 σ k32 v1 v2 v3 (v5 ||| r_55) v7))
set_option maxHeartbeats 4000000 in
set_option maxRecDepth 100000 in
theorem w_X1_leftOf_32 {p : Program} {l : Launch} {e : Env} {R : Room} {s : State} {m : MethodId} {args : Array Value} {below : List Frame} {meth : Method} {c : Code} {D : va_G} {ad : Nat → Nat} {cI cJ cZ : ClassId} {res : Int64} (hm : mx p s m args meth c cX1_leftOf 10 (some .long) wsX1_leftOf RX1) (hR : 1 ≤ R.frames ∧ 22 ≤ R.locals) (hK : va_K D vwCl (tyw cI cJ cZ) s) (hD : ∀ σ, va_D (aC ad) (wC ad cI cJ cZ σ)) (σ : SS) : ∀ (n : Nat) (v1 : Int32) (v2 : Int32) (v3 : Int64) (v5 : Int64) (v7 : Int32), p_X1_leftOf_32 σ n v1 v2 v3 v5 v7 = some res → ∀ (H : Heap) (locs : List Loc) (ls : Array Slot), va_P D vwCl (wC ad cI cJ cZ σ) H → va_S (aC ad) s.heap H locs → lv_has ls 10 [(0, .ref (ad 3)), (1, .int v1), (2, .int v2), (3, .long v3), (5, .long v5), (7, .int v7)] → W p l e R s m args below meth c H locs 0 0 (MQ below (va_Ql (fun (r : Int64) (u : SS) => r = res ∧ u = σ) (fun u t => va_P D vwCl (wC ad cI cJ cZ u) t.heap) (aC ad)) args s 0 0 (aC ad)) (F0 m 32 ls []) := by
  obtain ⟨hx, hb, hr, hml, hown, hts, hlk⟩ := id hm
  intro n
  induction n with
  | zero =>
    intro _ _ _ _ _ hf
    cases hf
  | succ n hk32 =>
    intro v1 v2 v3 v5 v7 hf H locs ls hP hS hl
    rw [p_X1_leftOf_32] at hf
    try dsimp only at hf
    refine lv_iload hx hb dX1_leftOf_32 (lv_at hl 5 rfl) ?_
    refine lv_iload_n hx hb dX1_leftOf_34 rfl (lv_at hl 1 rfl) ?_
    refine lv_icmp_ge (tgt := 67) hx hb dX1_leftOf_35 (by decide) (fun c_35 => ?_) (fun c_35 => ?_)
    · rw [if_pos c_35] at hf
      refine lv_lconst (v := 0) hx hb dX1_leftOf_67 (by decide) ?_
      refine lv_lstore (lv' := [(7, .long 0), (0, .ref (ad 3)), (1, .int v1), (2, .int v2), (3, .long v3), (5, .long v5)]) hx hb dX1_leftOf_68 hl (by decide) rfl (fun ls hl => ?_)
      refine lv_iconst (v := 0) hx hb dX1_leftOf_70 (by decide) ?_
      refine lv_istore (lv' := [(9, .int 0), (7, .long 0), (0, .ref (ad 3)), (1, .int v1), (2, .int v2), (3, .long v3), (5, .long v5)]) hx hb dX1_leftOf_71 hl (by decide) rfl (fun ls hl => ?_)
      exact w_X1_leftOf_73 hm hR hK hD σ 100000 v1 v2 v3 v5 0 0 hf _ _ _ hP hS (lv_sub hl [2, 3, 4, 5, 6, 1, 0] rfl)
    · rw [if_neg c_35] at hf
      refine lv_lload_n hx hb dX1_leftOf_38 rfl (lv_at hl 3 rfl) ?_
      refine lv_iload hx hb dX1_leftOf_39 (lv_at hl 5 rfl) ?_
      obtain ⟨r_41, hg_41, hf⟩ := oc_e hf
      refine mS_i (D := D) (As := [.long v3, .int v7]) (rest := []) ⟨hx, hb, hml, hown, hts⟩ hP hS (c_X0_has l v3 v7 hg_41) (va_cwS 2 hts gX1_leftOf_X0_has rfl rfl rfl hd_X0_has ⟨Nat.le_trans (Nat.le_of_ble_eq_true rfl) hR.1, Nat.le_trans (Nat.le_of_ble_eq_true rfl) hR.2⟩) rfl hl.1 rfl (Nat.le_of_ble_eq_true rfl) dX1_leftOf_41 (fun H locs hP hS => ?_)
      refine lv_if_eq (tgt := 61) hx hb dX1_leftOf_44 (by decide) (fun c_44 => ?_) (fun c_44 => ?_)
      · rw [if_pos c_44] at hf
        exact w_X1_leftOf_61 hm hR hK hD σ (p_X1_leftOf_32 σ n) hk32 v1 v2 v3 v5 v7 hf _ _ _ hP hS (lv_sub hl [0, 1, 2, 3, 4, 5] rfl)
      · rw [if_neg c_44] at hf
        refine lv_lload hx hb dX1_leftOf_47 (lv_at hl 4 rfl) ?_
        refine lv_aload_n hx hb dX1_leftOf_49 rfl (lv_at hl 0 rfl) ?_
        refine va_get (D := D) (ci := 0) (v := .ref (ad 1)) (C := RX1) (T := TX1) (N := 4) hx hb hts in_X1_leftOf_X1 hown hK hP 3 (wC_3 _ _ _ _ _) rfl 0 (by decide) (hts (.fieldLink RX1 18 "CallGraphs$Choices" "types" "LCallGraphs$Types;") (List.mem_of_getElem? (i := 1) rfl)) (fun _ h9 => h9) (fC_3_0 _ _) dX1_leftOf_50 ?_
        refine lv_iload hx hb dX1_leftOf_53 (lv_at hl 5 rfl) ?_
        obtain ⟨r_55, hg_55, hf⟩ := oc_e hf
        refine mV_rl (wd := wC ad cI cJ cZ) (σ := σ) (As := [.int v7]) (rest := [.long v5]) ⟨hx, hb, hml, hown, hts⟩ hK hP hD hS (c_X6_above l D ad cI cJ cZ σ v7 hg_55) (cwV 1 hts gX1_leftOf_X6_above rfl rfl rfl hd_X6_above ⟨Nat.le_trans (Nat.le_of_ble_eq_true rfl) hR.1, Nat.le_trans (Nat.le_of_ble_eq_true rfl) hR.2⟩) rfl (wC_1 _ _ _ _ _) rfl hl.1 rfl (Nat.le_of_ble_eq_true rfl) dX1_leftOf_55 (fun H locs hP hS => ?_)
        refine lv_lor hx hb dX1_leftOf_58 ?_
        refine lv_lstore (lv' := [(5, .long (v5 ||| r_55)), (0, .ref (ad 3)), (1, .int v1), (2, .int v2), (3, .long v3), (7, .int v7)]) hx hb dX1_leftOf_59 hl (by decide) rfl (fun ls hl => ?_)
        exact w_X1_leftOf_61 hm hR hK hD σ (p_X1_leftOf_32 σ n) hk32 v1 v2 v3 (v5 ||| r_55) v7 hf _ _ _ hP hS (lv_sub hl [1, 2, 3, 4, 0, 5] rfl)
def p_X1_leftOf_0 (σ : SS) (v1 : Int32) (v2 : Int32) : Option (Int64) := oc (p_X6_facesAbove_0 σ v1) (fun r_5 => oc (p_X4_passersOf_0 σ v2) (fun r_13 => if (lg_cmp (r_5 &&& r_13) 0) = 0 then some 0 else p_X1_leftOf_32 σ 100000 v1 v2 (r_5 &&& r_13) 0 0))
set_option maxHeartbeats 4000000 in
set_option maxRecDepth 100000 in
theorem w_X1_leftOf_0 {p : Program} {l : Launch} {e : Env} {R : Room} {s : State} {m : MethodId} {args : Array Value} {below : List Frame} {meth : Method} {c : Code} {D : va_G} {ad : Nat → Nat} {cI cJ cZ : ClassId} {res : Int64} (hm : mx p s m args meth c cX1_leftOf 10 (some .long) wsX1_leftOf RX1) (hR : 1 ≤ R.frames ∧ 22 ≤ R.locals) (hK : va_K D vwCl (tyw cI cJ cZ) s) (hD : ∀ σ, va_D (aC ad) (wC ad cI cJ cZ σ)) (σ : SS) (v1 : Int32) (v2 : Int32) (hf : p_X1_leftOf_0 σ v1 v2 = some res) (H : Heap) (locs : List Loc) (ls : Array Slot) (hP : va_P D vwCl (wC ad cI cJ cZ σ) H) (hS : va_S (aC ad) s.heap H locs) (hl : lv_has ls 10 [(0, .ref (ad 3)), (1, .int v1), (2, .int v2)]) : W p l e R s m args below meth c H locs 0 0 (MQ below (va_Ql (fun (r : Int64) (u : SS) => r = res ∧ u = σ) (fun u t => va_P D vwCl (wC ad cI cJ cZ u) t.heap) (aC ad)) args s 0 0 (aC ad)) (F0 m 0 ls []) := by
  obtain ⟨hx, hb, hr, hml, hown, hts, hlk⟩ := id hm
  unfold p_X1_leftOf_0 at hf
  refine lv_aload_n hx hb dX1_leftOf_0 rfl (lv_at hl 0 rfl) ?_
  refine va_get (D := D) (ci := 0) (v := .ref (ad 1)) (C := RX1) (T := TX1) (N := 4) hx hb hts in_X1_leftOf_X1 hown hK hP 3 (wC_3 _ _ _ _ _) rfl 0 (by decide) (hts (.fieldLink RX1 18 "CallGraphs$Choices" "types" "LCallGraphs$Types;") (List.mem_of_getElem? (i := 1) rfl)) (fun _ h9 => h9) (fC_3_0 _ _) dX1_leftOf_1 ?_
  refine lv_iload_n hx hb dX1_leftOf_4 rfl (lv_at hl 1 rfl) ?_
  obtain ⟨r_5, hg_5, hf⟩ := oc_e hf
  refine mV_rl (wd := wC ad cI cJ cZ) (σ := σ) (As := [.int v1]) (rest := []) ⟨hx, hb, hml, hown, hts⟩ hK hP hD hS (c_X6_facesAbove l D ad cI cJ cZ σ v1 hg_5) (cwV 1 hts gX1_leftOf_X6_facesAbove rfl rfl rfl hd_X6_facesAbove ⟨Nat.le_trans (Nat.le_of_ble_eq_true rfl) hR.1, Nat.le_trans (Nat.le_of_ble_eq_true rfl) hR.2⟩) rfl (wC_1 _ _ _ _ _) rfl hl.1 rfl (Nat.le_of_ble_eq_true rfl) dX1_leftOf_5 (fun H locs hP hS => ?_)
  refine lv_aload_n hx hb dX1_leftOf_8 rfl (lv_at hl 0 rfl) ?_
  refine va_get (D := D) (ci := 0) (v := .ref (ad 2)) (C := RX1) (T := TX1) (N := 4) hx hb hts in_X1_leftOf_X1 hown hK hP 3 (wC_3 _ _ _ _ _) rfl 1 (by decide) (hts (.fieldLink RX1 22 "CallGraphs$Choices" "members" "LCallGraphs$Members;") (List.mem_of_getElem? (i := 2) rfl)) (fun _ h9 => h9) (fC_3_1 _ _) dX1_leftOf_9 ?_
  refine lv_iload_n hx hb dX1_leftOf_12 rfl (lv_at hl 2 rfl) ?_
  obtain ⟨r_13, hg_13, hf⟩ := oc_e hf
  refine mV_rl (wd := wC ad cI cJ cZ) (σ := σ) (As := [.int v2]) (rest := [.long r_5]) ⟨hx, hb, hml, hown, hts⟩ hK hP hD hS (c_X4_passersOf l D ad cI cJ cZ σ v2 hg_13) (cwV 1 hts gX1_leftOf_X4_passersOf rfl rfl rfl hd_X4_passersOf ⟨Nat.le_trans (Nat.le_of_ble_eq_true rfl) hR.1, Nat.le_trans (Nat.le_of_ble_eq_true rfl) hR.2⟩) rfl (wC_2 _ _ _ _ _) rfl hl.1 rfl (Nat.le_of_ble_eq_true rfl) dX1_leftOf_13 (fun H locs hP hS => ?_)
  refine lv_land hx hb dX1_leftOf_16 ?_
  refine lv_lstore_n (lv' := [(3, .long (r_5 &&& r_13)), (0, .ref (ad 3)), (1, .int v1), (2, .int v2)]) hx hb dX1_leftOf_17 rfl hl (by decide) rfl (fun ls hl => ?_)
  refine lv_lload_n hx hb dX1_leftOf_18 rfl (lv_at hl 0 rfl) ?_
  refine lv_lconst (v := 0) hx hb dX1_leftOf_19 (by decide) ?_
  refine W.lcmp hx hb dX1_leftOf_20 ?_
  refine lv_if_ne (tgt := 26) hx hb dX1_leftOf_21 (by decide) (fun c_21 => ?_) (fun c_21 => ?_)
  · rw [if_neg c_21] at hf
    refine lv_lconst (v := 0) hx hb dX1_leftOf_26 (by decide) ?_
    refine lv_lstore (lv' := [(5, .long 0), (3, .long (r_5 &&& r_13)), (0, .ref (ad 3)), (1, .int v1), (2, .int v2)]) hx hb dX1_leftOf_27 hl (by decide) rfl (fun ls hl => ?_)
    refine lv_iconst (v := 0) hx hb dX1_leftOf_29 (by decide) ?_
    refine lv_istore (lv' := [(7, .int 0), (5, .long 0), (3, .long (r_5 &&& r_13)), (0, .ref (ad 3)), (1, .int v1), (2, .int v2)]) hx hb dX1_leftOf_30 hl (by decide) rfl (fun ls hl => ?_)
    exact w_X1_leftOf_32 hm hR hK hD σ 100000 v1 v2 (r_5 &&& r_13) 0 0 hf _ _ _ hP hS (lv_sub hl [3, 4, 5, 2, 1, 0] rfl)
  · rw [if_pos c_21] at hf
    refine lv_lconst (v := 0) hx hb dX1_leftOf_24 (by decide) ?_
    exact rt_l (wd := wC ad cI cJ cZ) hx hb hr hlk ⟨Option.some.inj hf, rfl⟩ hP hS dX1_leftOf_25
theorem hd_X1_leftOf : yX1_leftOf.cls = RX1 ∧ yX1_leftOf.cls ≠ "java/lang/invoke/MethodHandle" ∧ yX1_leftOf.cls ≠ "java/lang/invoke/VarHandle" ∧ (parseMethodDescriptor yX1_leftOf.desc).map (fun d => d.parameters.length) = some 2 := by decide +kernel
set_option maxHeartbeats 4000000 in
set_option maxRecDepth 100000 in
theorem c_X1_leftOf (l : Launch) (D : va_G) (ad : Nat → Nat) (cI cJ cZ : ClassId) (σ : SS) (v1 : Int32) (v2 : Int32) {res : Int64} (hf : p_X1_leftOf_0 σ v1 v2 = some res) : Met l yX1_leftOf wsX1_leftOf ({ frames := 1, cells := 0, slots := 0, locals := 22 } : Room) (PW D (tyw cI cJ cZ) (wC ad cI cJ cZ σ) [.ref (ad 3), .int v1, .int v2]) (va_Ql (fun (r : Int64) (u : SS) => r = res ∧ u = σ) (fun u t => va_P D vwCl (wC ad cI cJ cZ u) t.heap) (aC ad)) 0 0 (aC ad) := by
  refine Met.ofW (cc := cX1_leftOf) (maxL := 10) (ret := (some .long)) (by decide) rfl ?_
  intro p e s m args below meth c s₁ B hml hv
  obtain ⟨rfl, hP, hK, hD0⟩ := hv
  have hD : ∀ σ, va_D (aC ad) (wC ad cI cJ cZ σ) := fun σ => wd_D hD0 (wC_map _ _ _ _ _) (wC_map _ _ _ _ _)
  have hm : mx p s m _ meth c cX1_leftOf 10 (some .long) wsX1_leftOf RX1 := ⟨B.exec, B.bytes, B.returns, hml, findClass_of_methodNamed B.named, atoms_spec (ws := wsX1_leftOf) B.pre, B.notSynchronized⟩
  have hl := lv_entry ([.ref (ad 3), .int v1, .int v2]) (n := 10) (Nat.le_of_ble_eq_true rfl)
  rw [lg_entry_eq]
  generalize (lg_sl ([.ref (ad 3), .int v1, .int v2]) ++ List.replicate (10 - (lg_sl ([.ref (ad 3), .int v1, .int v2])).length) Slot.unset).toArray = ls at hl ⊢
  exact w_X1_leftOf_0 hm ⟨Nat.le_refl _, Nat.le_refl _⟩ hK hD σ v1 v2 hf _ _ _ hP va_S.rf hl
/-! CallGraphs$Choices.tellFound(IIJJ)I -/
theorem in_X1_tellFound_X1 : ∀ w ∈ u_ws RX1 TX1 4, w ∈ wsX1_tellFound := fun w h => List.mem_cons_of_mem _ (List.mem_append_left _ (List.mem_append_left _ (List.mem_append_right _ h)))
def p_X1_tellFound_72 (σ : SS) (t0 : Int64) : Option (Int32) := oc (p_X0_least_0 t0) (fun r_72 => some r_72)
set_option maxHeartbeats 4000000 in
set_option maxRecDepth 100000 in
theorem w_X1_tellFound_72 {p : Program} {l : Launch} {e : Env} {R : Room} {s : State} {m : MethodId} {args : Array Value} {below : List Frame} {meth : Method} {c : Code} {D : va_G} {ad : Nat → Nat} {cI cJ cZ : ClassId} {res : Int32} (hm : mx p s m args meth c cX1_tellFound 10 (some .int) wsX1_tellFound RX1) (hR : 3 ≤ R.frames ∧ 67 ≤ R.locals) (hK : va_K D vwCl (tyw cI cJ cZ) s) (hD : ∀ σ, va_D (aC ad) (wC ad cI cJ cZ σ)) (σ : SS) (t0 : Int64) (hf : p_X1_tellFound_72 σ t0 = some res) (H : Heap) (locs : List Loc) (ls : Array Slot) (hP : va_P D vwCl (wC ad cI cJ cZ σ) H) (hS : va_S (aC ad) s.heap H locs) (hl : lv_has ls 10 []) : W p l e R s m args below meth c H locs 0 0 (MQ below (va_Qi (fun (r : Int32) (u : SS) => r = res ∧ u = σ) (fun u t => va_P D vwCl (wC ad cI cJ cZ u) t.heap) (aC ad)) args s 0 0 (aC ad)) (F0 m 72 ls [.long t0]) := by
  obtain ⟨hx, hb, hr, hml, hown, hts, hlk⟩ := id hm
  unfold p_X1_tellFound_72 at hf
  obtain ⟨r_72, hg_72, hf⟩ := oc_e hf
  refine mS_i (D := D) (As := [.long t0]) (rest := []) ⟨hx, hb, hml, hown, hts⟩ hP hS (c_X0_least l t0 hg_72) (va_cwS 1 hts gX1_tellFound_X0_least rfl rfl rfl hd_X0_least ⟨Nat.le_trans (Nat.le_of_ble_eq_true rfl) hR.1, Nat.le_trans (Nat.le_of_ble_eq_true rfl) hR.2⟩) rfl hl.1 rfl (Nat.le_of_ble_eq_true rfl) dX1_tellFound_72 (fun H locs hP hS => ?_)
  exact rt_i (wd := wC ad cI cJ cZ) hx hb hr hlk ⟨Option.some.inj hf, rfl⟩ hP hS dX1_tellFound_75
def p_X1_tellFound_57 (σ : SS) (v3 : Int64) (v5 : Int64) : Option (Int32) := oc (p_J13_bitCount_95d88_0 v5) (fun r_59 => if r_59 = 1 then p_X1_tellFound_72 σ v5 else p_X1_tellFound_72 σ v3)
set_option maxHeartbeats 4000000 in
set_option maxRecDepth 100000 in
theorem w_X1_tellFound_57 {p : Program} {l : Launch} {e : Env} {R : Room} {s : State} {m : MethodId} {args : Array Value} {below : List Frame} {meth : Method} {c : Code} {D : va_G} {ad : Nat → Nat} {cI cJ cZ : ClassId} {res : Int32} (hm : mx p s m args meth c cX1_tellFound 10 (some .int) wsX1_tellFound RX1) (hR : 3 ≤ R.frames ∧ 67 ≤ R.locals) (hK : va_K D vwCl (tyw cI cJ cZ) s) (hD : ∀ σ, va_D (aC ad) (wC ad cI cJ cZ σ)) (σ : SS) (v3 : Int64) (v5 : Int64) (hf : p_X1_tellFound_57 σ v3 v5 = some res) (H : Heap) (locs : List Loc) (ls : Array Slot) (hP : va_P D vwCl (wC ad cI cJ cZ σ) H) (hS : va_S (aC ad) s.heap H locs) (hl : lv_has ls 10 [(3, .long v3), (5, .long v5)]) : W p l e R s m args below meth c H locs 0 0 (MQ below (va_Qi (fun (r : Int32) (u : SS) => r = res ∧ u = σ) (fun u t => va_P D vwCl (wC ad cI cJ cZ u) t.heap) (aC ad)) args s 0 0 (aC ad)) (F0 m 57 ls []) := by
  obtain ⟨hx, hb, hr, hml, hown, hts, hlk⟩ := id hm
  unfold p_X1_tellFound_57 at hf
  refine lv_lload hx hb dX1_tellFound_57 (lv_at hl 1 rfl) ?_
  obtain ⟨r_59, hg_59, hf⟩ := oc_e hf
  refine mS_i (D := D) (As := [.long v5]) (rest := []) ⟨hx, hb, hml, hown, hts⟩ hP hS (c_J13_bitCount_95d88 l v5 hg_59) (va_cwS 1 hts gX1_tellFound_J13_bitCount_95d88 rfl rfl rfl hd_J13_bitCount_95d88 ⟨Nat.le_trans (Nat.le_of_ble_eq_true rfl) hR.1, Nat.le_trans (Nat.le_of_ble_eq_true rfl) hR.2⟩) rfl hl.1 rfl (Nat.le_of_ble_eq_true rfl) dX1_tellFound_59 (fun H locs hP hS => ?_)
  refine lv_iconst (v := 1) hx hb dX1_tellFound_62 (by decide) ?_
  refine lv_icmp_ne (tgt := 71) hx hb dX1_tellFound_63 (by decide) (fun c_63 => ?_) (fun c_63 => ?_)
  · rw [if_neg c_63] at hf
    refine lv_lload_n hx hb dX1_tellFound_71 rfl (lv_at hl 0 rfl) ?_
    exact w_X1_tellFound_72 hm hR hK hD σ v3 hf _ _ _ hP hS (lv_sub hl [] rfl)
  · rw [if_pos c_63] at hf
    refine lv_lload hx hb dX1_tellFound_66 (lv_at hl 1 rfl) ?_
    refine lv_goto (tgt := 72) hx hb dX1_tellFound_68 (by decide) ?_
    exact w_X1_tellFound_72 hm hR hK hD σ v5 hf _ _ _ hP hS (lv_sub hl [] rfl)
def p_X1_tellFound_6 (σ : SS) : Nat → Int32 → Int64 → Int64 → Int32 → Int32 → Option (Int32)
  | 0, _, _, _, _, _ => none
  | n + 1, v2, v3, v5, v7, v8 => let k6 := p_X1_tellFound_6 σ n; if 16 ≤ v8 then p_X1_tellFound_57 σ v3 v5 else if v7 = (-1) then p_X1_tellFound_57 σ v3 v5 else oc (p_X4_named_0 σ v7 v2) (fun r_26 => if r_26 = (-1) then oc (p_X6_superOf_0 σ v7) (fun r_46 => k6 v2 v3 v5 r_46 (v8 + 1)) else some r_26)
set_option maxHeartbeats 4000000 in
set_option maxRecDepth 100000 in
theorem w_X1_tellFound_6 {p : Program} {l : Launch} {e : Env} {R : Room} {s : State} {m : MethodId} {args : Array Value} {below : List Frame} {meth : Method} {c : Code} {D : va_G} {ad : Nat → Nat} {cI cJ cZ : ClassId} {res : Int32} (hm : mx p s m args meth c cX1_tellFound 10 (some .int) wsX1_tellFound RX1) (hR : 3 ≤ R.frames ∧ 67 ≤ R.locals) (hK : va_K D vwCl (tyw cI cJ cZ) s) (hD : ∀ σ, va_D (aC ad) (wC ad cI cJ cZ σ)) (σ : SS) : ∀ (n : Nat) (v2 : Int32) (v3 : Int64) (v5 : Int64) (v7 : Int32) (v8 : Int32), p_X1_tellFound_6 σ n v2 v3 v5 v7 v8 = some res → ∀ (H : Heap) (locs : List Loc) (ls : Array Slot), va_P D vwCl (wC ad cI cJ cZ σ) H → va_S (aC ad) s.heap H locs → lv_has ls 10 [(0, .ref (ad 3)), (2, .int v2), (3, .long v3), (5, .long v5), (7, .int v7), (8, .int v8)] → W p l e R s m args below meth c H locs 0 0 (MQ below (va_Qi (fun (r : Int32) (u : SS) => r = res ∧ u = σ) (fun u t => va_P D vwCl (wC ad cI cJ cZ u) t.heap) (aC ad)) args s 0 0 (aC ad)) (F0 m 6 ls []) := by
  obtain ⟨hx, hb, hr, hml, hown, hts, hlk⟩ := id hm
  intro n
  induction n with
  | zero =>
    intro _ _ _ _ _ hf
    cases hf
  | succ n hk6 =>
    intro v2 v3 v5 v7 v8 hf H locs ls hP hS hl
    rw [p_X1_tellFound_6] at hf
    try dsimp only at hf
    refine lv_iload hx hb dX1_tellFound_6 (lv_at hl 5 rfl) ?_
    refine lv_bipush (v := 16) hx hb dX1_tellFound_8 (by decide) ?_
    refine lv_icmp_ge (tgt := 57) hx hb dX1_tellFound_10 (by decide) (fun c_10 => ?_) (fun c_10 => ?_)
    · rw [if_pos c_10] at hf
      exact w_X1_tellFound_57 hm hR hK hD σ v3 v5 hf _ _ _ hP hS (lv_sub hl [2, 3] rfl)
    · rw [if_neg c_10] at hf
      refine lv_iload hx hb dX1_tellFound_13 (lv_at hl 4 rfl) ?_
      refine lv_iconst (v := (-1)) hx hb dX1_tellFound_15 (by decide) ?_
      refine lv_icmp_eq (tgt := 57) hx hb dX1_tellFound_16 (by decide) (fun c_16 => ?_) (fun c_16 => ?_)
      · rw [if_pos c_16] at hf
        exact w_X1_tellFound_57 hm hR hK hD σ v3 v5 hf _ _ _ hP hS (lv_sub hl [2, 3] rfl)
      · rw [if_neg c_16] at hf
        refine lv_aload_n hx hb dX1_tellFound_19 rfl (lv_at hl 0 rfl) ?_
        refine va_get (D := D) (ci := 0) (v := .ref (ad 2)) (C := RX1) (T := TX1) (N := 4) hx hb hts in_X1_tellFound_X1 hown hK hP 3 (wC_3 _ _ _ _ _) rfl 1 (by decide) (hts (.fieldLink RX1 22 "CallGraphs$Choices" "members" "LCallGraphs$Members;") (List.mem_of_getElem? (i := 1) rfl)) (fun _ h9 => h9) (fC_3_1 _ _) dX1_tellFound_20 ?_
        refine lv_iload hx hb dX1_tellFound_23 (lv_at hl 4 rfl) ?_
        refine lv_iload_n hx hb dX1_tellFound_25 rfl (lv_at hl 1 rfl) ?_
        obtain ⟨r_26, hg_26, hf⟩ := oc_e hf
        refine mV_ri (wd := wC ad cI cJ cZ) (σ := σ) (As := [.int v7, .int v2]) (rest := []) ⟨hx, hb, hml, hown, hts⟩ hK hP hD hS (c_X4_named l D ad cI cJ cZ σ v7 v2 hg_26) (cwV 2 hts gX1_tellFound_X4_named rfl rfl rfl hd_X4_named ⟨Nat.le_trans (Nat.le_of_ble_eq_true rfl) hR.1, Nat.le_trans (Nat.le_of_ble_eq_true rfl) hR.2⟩) rfl (wC_2 _ _ _ _ _) rfl hl.1 rfl (Nat.le_of_ble_eq_true rfl) dX1_tellFound_26 (fun H locs hP hS => ?_)
        refine lv_istore (lv' := [(9, .int r_26), (0, .ref (ad 3)), (2, .int v2), (3, .long v3), (5, .long v5), (7, .int v7), (8, .int v8)]) hx hb dX1_tellFound_29 hl (by decide) rfl (fun ls hl => ?_)
        refine lv_iload hx hb dX1_tellFound_31 (lv_at hl 0 rfl) ?_
        refine lv_iconst (v := (-1)) hx hb dX1_tellFound_33 (by decide) ?_
        refine lv_icmp_eq (tgt := 40) hx hb dX1_tellFound_34 (by decide) (fun c_34 => ?_) (fun c_34 => ?_)
        · rw [if_pos c_34] at hf
          refine lv_aload_n hx hb dX1_tellFound_40 rfl (lv_at hl 1 rfl) ?_
          refine va_get (D := D) (ci := 0) (v := .ref (ad 1)) (C := RX1) (T := TX1) (N := 4) hx hb hts in_X1_tellFound_X1 hown hK hP 3 (wC_3 _ _ _ _ _) rfl 0 (by decide) (hts (.fieldLink RX1 18 "CallGraphs$Choices" "types" "LCallGraphs$Types;") (List.mem_of_getElem? (i := 2) rfl)) (fun _ h9 => h9) (fC_3_0 _ _) dX1_tellFound_41 ?_
          refine lv_iload hx hb dX1_tellFound_44 (lv_at hl 5 rfl) ?_
          obtain ⟨r_46, hg_46, hf⟩ := oc_e hf
          refine mV_ri (wd := wC ad cI cJ cZ) (σ := σ) (As := [.int v7]) (rest := []) ⟨hx, hb, hml, hown, hts⟩ hK hP hD hS (c_X6_superOf l D ad cI cJ cZ σ v7 hg_46) (cwV 1 hts gX1_tellFound_X6_superOf rfl rfl rfl hd_X6_superOf ⟨Nat.le_trans (Nat.le_of_ble_eq_true rfl) hR.1, Nat.le_trans (Nat.le_of_ble_eq_true rfl) hR.2⟩) rfl (wC_1 _ _ _ _ _) rfl hl.1 rfl (Nat.le_of_ble_eq_true rfl) dX1_tellFound_46 (fun H locs hP hS => ?_)
          refine lv_istore (lv' := [(7, .int r_46), (9, .int r_26), (0, .ref (ad 3)), (2, .int v2), (3, .long v3), (5, .long v5), (8, .int v8)]) hx hb dX1_tellFound_49 hl (by decide) rfl (fun ls hl => ?_)
          refine lv_iinc (v := (v8 + 1)) (lv' := [(8, .int (v8 + 1)), (7, .int r_46), (9, .int r_26), (0, .ref (ad 3)), (2, .int v2), (3, .long v3), (5, .long v5)]) hx hb dX1_tellFound_51 hl (k := 6) rfl rfl (by decide) rfl (fun ls hl => ?_)
          refine lv_goto (tgt := 6) hx hb dX1_tellFound_54 (by decide) ?_
          exact hk6 v2 v3 v5 r_46 (v8 + 1) hf _ _ _ hP hS (lv_sub hl [3, 4, 5, 6, 1, 0] rfl)
        · rw [if_neg c_34] at hf
          refine lv_iload hx hb dX1_tellFound_37 (lv_at hl 0 rfl) ?_
          exact rt_i (wd := wC ad cI cJ cZ) hx hb hr hlk ⟨Option.some.inj hf, rfl⟩ hP hS dX1_tellFound_39
def p_X1_tellFound_0 (σ : SS) (v1 : Int32) (v2 : Int32) (v3 : Int64) (v5 : Int64) : Option (Int32) := p_X1_tellFound_6 σ 100000 v2 v3 v5 v1 0
set_option maxHeartbeats 4000000 in
set_option maxRecDepth 100000 in
theorem w_X1_tellFound_0 {p : Program} {l : Launch} {e : Env} {R : Room} {s : State} {m : MethodId} {args : Array Value} {below : List Frame} {meth : Method} {c : Code} {D : va_G} {ad : Nat → Nat} {cI cJ cZ : ClassId} {res : Int32} (hm : mx p s m args meth c cX1_tellFound 10 (some .int) wsX1_tellFound RX1) (hR : 3 ≤ R.frames ∧ 67 ≤ R.locals) (hK : va_K D vwCl (tyw cI cJ cZ) s) (hD : ∀ σ, va_D (aC ad) (wC ad cI cJ cZ σ)) (σ : SS) (v1 : Int32) (v2 : Int32) (v3 : Int64) (v5 : Int64) (hf : p_X1_tellFound_0 σ v1 v2 v3 v5 = some res) (H : Heap) (locs : List Loc) (ls : Array Slot) (hP : va_P D vwCl (wC ad cI cJ cZ σ) H) (hS : va_S (aC ad) s.heap H locs) (hl : lv_has ls 10 [(0, .ref (ad 3)), (1, .int v1), (2, .int v2), (3, .long v3), (5, .long v5)]) : W p l e R s m args below meth c H locs 0 0 (MQ below (va_Qi (fun (r : Int32) (u : SS) => r = res ∧ u = σ) (fun u t => va_P D vwCl (wC ad cI cJ cZ u) t.heap) (aC ad)) args s 0 0 (aC ad)) (F0 m 0 ls []) := by
  obtain ⟨hx, hb, hr, hml, hown, hts, hlk⟩ := id hm
  unfold p_X1_tellFound_0 at hf
  refine lv_iload_n hx hb dX1_tellFound_0 rfl (lv_at hl 1 rfl) ?_
  refine lv_istore (lv' := [(7, .int v1), (0, .ref (ad 3)), (1, .int v1), (2, .int v2), (3, .long v3), (5, .long v5)]) hx hb dX1_tellFound_1 hl (by decide) rfl (fun ls hl => ?_)
  refine lv_iconst (v := 0) hx hb dX1_tellFound_3 (by decide) ?_
  refine lv_istore (lv' := [(8, .int 0), (7, .int v1), (0, .ref (ad 3)), (1, .int v1), (2, .int v2), (3, .long v3), (5, .long v5)]) hx hb dX1_tellFound_4 hl (by decide) rfl (fun ls hl => ?_)
  exact w_X1_tellFound_6 hm hR hK hD σ 100000 v2 v3 v5 v1 0 hf _ _ _ hP hS (lv_sub hl [2, 4, 5, 6, 1, 0] rfl)
theorem hd_X1_tellFound : yX1_tellFound.cls = RX1 ∧ yX1_tellFound.cls ≠ "java/lang/invoke/MethodHandle" ∧ yX1_tellFound.cls ≠ "java/lang/invoke/VarHandle" ∧ (parseMethodDescriptor yX1_tellFound.desc).map (fun d => d.parameters.length) = some 4 := by decide +kernel
set_option maxHeartbeats 4000000 in
set_option maxRecDepth 100000 in
theorem c_X1_tellFound (l : Launch) (D : va_G) (ad : Nat → Nat) (cI cJ cZ : ClassId) (σ : SS) (v1 : Int32) (v2 : Int32) (v3 : Int64) (v5 : Int64) {res : Int32} (hf : p_X1_tellFound_0 σ v1 v2 v3 v5 = some res) : Met l yX1_tellFound wsX1_tellFound ({ frames := 3, cells := 0, slots := 0, locals := 67 } : Room) (PW D (tyw cI cJ cZ) (wC ad cI cJ cZ σ) [.ref (ad 3), .int v1, .int v2, .long v3, .long v5]) (va_Qi (fun (r : Int32) (u : SS) => r = res ∧ u = σ) (fun u t => va_P D vwCl (wC ad cI cJ cZ u) t.heap) (aC ad)) 0 0 (aC ad) := by
  refine Met.ofW (cc := cX1_tellFound) (maxL := 10) (ret := (some .int)) (by decide) rfl ?_
  intro p e s m args below meth c s₁ B hml hv
  obtain ⟨rfl, hP, hK, hD0⟩ := hv
  have hD : ∀ σ, va_D (aC ad) (wC ad cI cJ cZ σ) := fun σ => wd_D hD0 (wC_map _ _ _ _ _) (wC_map _ _ _ _ _)
  have hm : mx p s m _ meth c cX1_tellFound 10 (some .int) wsX1_tellFound RX1 := ⟨B.exec, B.bytes, B.returns, hml, findClass_of_methodNamed B.named, atoms_spec (ws := wsX1_tellFound) B.pre, B.notSynchronized⟩
  have hl := lv_entry ([.ref (ad 3), .int v1, .int v2, .long v3, .long v5]) (n := 10) (Nat.le_of_ble_eq_true rfl)
  rw [lg_entry_eq]
  generalize (lg_sl ([.ref (ad 3), .int v1, .int v2, .long v3, .long v5]) ++ List.replicate (10 - (lg_sl ([.ref (ad 3), .int v1, .int v2, .long v3, .long v5])).length) Slot.unset).toArray = ls at hl ⊢
  exact w_X1_tellFound_0 hm ⟨Nat.le_refl _, Nat.le_refl _⟩ hK hD σ v1 v2 v3 v5 hf _ _ _ hP va_S.rf hl
/-! CallGraphs$Choices.plainOrBare(I)I -/
theorem in_X1_plainOrBare_X1 : ∀ w ∈ u_ws RX1 TX1 4, w ∈ wsX1_plainOrBare := fun w h => List.mem_cons_of_mem _ (List.mem_append_left _ (List.mem_append_right _ h))
def p_X1_plainOrBare_17 (σ : SS) (t0 : Int32) : Option (Int32) := some t0
set_option maxHeartbeats 4000000 in
set_option maxRecDepth 100000 in
theorem w_X1_plainOrBare_17 {p : Program} {l : Launch} {e : Env} {R : Room} {s : State} {m : MethodId} {args : Array Value} {below : List Frame} {meth : Method} {c : Code} {D : va_G} {ad : Nat → Nat} {cI cJ cZ : ClassId} {res : Int32} (hm : mx p s m args meth c cX1_plainOrBare 2 (some .int) wsX1_plainOrBare RX1) (hR : 1 ≤ R.frames ∧ 21 ≤ R.locals) (hK : va_K D vwCl (tyw cI cJ cZ) s) (hD : ∀ σ, va_D (aC ad) (wC ad cI cJ cZ σ)) (σ : SS) (t0 : Int32) (hf : p_X1_plainOrBare_17 σ t0 = some res) (H : Heap) (locs : List Loc) (ls : Array Slot) (hP : va_P D vwCl (wC ad cI cJ cZ σ) H) (hS : va_S (aC ad) s.heap H locs) (hl : lv_has ls 2 []) : W p l e R s m args below meth c H locs 0 0 (MQ below (va_Qi (fun (r : Int32) (u : SS) => r = res ∧ u = σ) (fun u t => va_P D vwCl (wC ad cI cJ cZ u) t.heap) (aC ad)) args s 0 0 (aC ad)) (F0 m 17 ls [.int t0]) := by
  obtain ⟨hx, hb, hr, hml, hown, hts, hlk⟩ := id hm
  unfold p_X1_plainOrBare_17 at hf
  exact rt_i (wd := wC ad cI cJ cZ) hx hb hr hlk ⟨Option.some.inj hf, rfl⟩ hP hS dX1_plainOrBare_17
def p_X1_plainOrBare_0 (σ : SS) (v1 : Int32) : Option (Int32) := oc (p_X4_sortOf_0 σ v1) (fun r_5 => if r_5 = 0 then p_X1_plainOrBare_17 σ v1 else p_X1_plainOrBare_17 σ (-4))
set_option maxHeartbeats 4000000 in
set_option maxRecDepth 100000 in
theorem w_X1_plainOrBare_0 {p : Program} {l : Launch} {e : Env} {R : Room} {s : State} {m : MethodId} {args : Array Value} {below : List Frame} {meth : Method} {c : Code} {D : va_G} {ad : Nat → Nat} {cI cJ cZ : ClassId} {res : Int32} (hm : mx p s m args meth c cX1_plainOrBare 2 (some .int) wsX1_plainOrBare RX1) (hR : 1 ≤ R.frames ∧ 21 ≤ R.locals) (hK : va_K D vwCl (tyw cI cJ cZ) s) (hD : ∀ σ, va_D (aC ad) (wC ad cI cJ cZ σ)) (σ : SS) (v1 : Int32) (hf : p_X1_plainOrBare_0 σ v1 = some res) (H : Heap) (locs : List Loc) (ls : Array Slot) (hP : va_P D vwCl (wC ad cI cJ cZ σ) H) (hS : va_S (aC ad) s.heap H locs) (hl : lv_has ls 2 [(0, .ref (ad 3)), (1, .int v1)]) : W p l e R s m args below meth c H locs 0 0 (MQ below (va_Qi (fun (r : Int32) (u : SS) => r = res ∧ u = σ) (fun u t => va_P D vwCl (wC ad cI cJ cZ u) t.heap) (aC ad)) args s 0 0 (aC ad)) (F0 m 0 ls []) := by
  obtain ⟨hx, hb, hr, hml, hown, hts, hlk⟩ := id hm
  unfold p_X1_plainOrBare_0 at hf
  refine lv_aload_n hx hb dX1_plainOrBare_0 rfl (lv_at hl 0 rfl) ?_
  refine va_get (D := D) (ci := 0) (v := .ref (ad 2)) (C := RX1) (T := TX1) (N := 4) hx hb hts in_X1_plainOrBare_X1 hown hK hP 3 (wC_3 _ _ _ _ _) rfl 1 (by decide) (hts (.fieldLink RX1 22 "CallGraphs$Choices" "members" "LCallGraphs$Members;") (List.mem_of_getElem? (i := 1) rfl)) (fun _ h9 => h9) (fC_3_1 _ _) dX1_plainOrBare_1 ?_
  refine lv_iload_n hx hb dX1_plainOrBare_4 rfl (lv_at hl 1 rfl) ?_
  obtain ⟨r_5, hg_5, hf⟩ := oc_e hf
  refine mV_ri (wd := wC ad cI cJ cZ) (σ := σ) (As := [.int v1]) (rest := []) ⟨hx, hb, hml, hown, hts⟩ hK hP hD hS (c_X4_sortOf l D ad cI cJ cZ σ v1 hg_5) (cwV 1 hts gX1_plainOrBare_X4_sortOf rfl rfl rfl hd_X4_sortOf ⟨Nat.le_trans (Nat.le_of_ble_eq_true rfl) hR.1, Nat.le_trans (Nat.le_of_ble_eq_true rfl) hR.2⟩) rfl (wC_2 _ _ _ _ _) rfl hl.1 rfl (Nat.le_of_ble_eq_true rfl) dX1_plainOrBare_5 (fun H locs hP hS => ?_)
  refine lv_if_ne (tgt := 15) hx hb dX1_plainOrBare_8 (by decide) (fun c_8 => ?_) (fun c_8 => ?_)
  · rw [if_neg c_8] at hf
    refine lv_bipush (v := (-4)) hx hb dX1_plainOrBare_15 (by decide) ?_
    exact w_X1_plainOrBare_17 hm hR hK hD σ (-4) hf _ _ _ hP hS (lv_sub hl [] rfl)
  · rw [if_pos c_8] at hf
    refine lv_iload_n hx hb dX1_plainOrBare_11 rfl (lv_at hl 1 rfl) ?_
    refine lv_goto (tgt := 17) hx hb dX1_plainOrBare_12 (by decide) ?_
    exact w_X1_plainOrBare_17 hm hR hK hD σ v1 hf _ _ _ hP hS (lv_sub hl [] rfl)
theorem hd_X1_plainOrBare : yX1_plainOrBare.cls = RX1 ∧ yX1_plainOrBare.cls ≠ "java/lang/invoke/MethodHandle" ∧ yX1_plainOrBare.cls ≠ "java/lang/invoke/VarHandle" ∧ (parseMethodDescriptor yX1_plainOrBare.desc).map (fun d => d.parameters.length) = some 1 := by decide +kernel
set_option maxHeartbeats 4000000 in
set_option maxRecDepth 100000 in
theorem c_X1_plainOrBare (l : Launch) (D : va_G) (ad : Nat → Nat) (cI cJ cZ : ClassId) (σ : SS) (v1 : Int32) {res : Int32} (hf : p_X1_plainOrBare_0 σ v1 = some res) : Met l yX1_plainOrBare wsX1_plainOrBare ({ frames := 1, cells := 0, slots := 0, locals := 21 } : Room) (PW D (tyw cI cJ cZ) (wC ad cI cJ cZ σ) [.ref (ad 3), .int v1]) (va_Qi (fun (r : Int32) (u : SS) => r = res ∧ u = σ) (fun u t => va_P D vwCl (wC ad cI cJ cZ u) t.heap) (aC ad)) 0 0 (aC ad) := by
  refine Met.ofW (cc := cX1_plainOrBare) (maxL := 2) (ret := (some .int)) (by decide) rfl ?_
  intro p e s m args below meth c s₁ B hml hv
  obtain ⟨rfl, hP, hK, hD0⟩ := hv
  have hD : ∀ σ, va_D (aC ad) (wC ad cI cJ cZ σ) := fun σ => wd_D hD0 (wC_map _ _ _ _ _) (wC_map _ _ _ _ _)
  have hm : mx p s m _ meth c cX1_plainOrBare 2 (some .int) wsX1_plainOrBare RX1 := ⟨B.exec, B.bytes, B.returns, hml, findClass_of_methodNamed B.named, atoms_spec (ws := wsX1_plainOrBare) B.pre, B.notSynchronized⟩
  have hl := lv_entry ([.ref (ad 3), .int v1]) (n := 2) (Nat.le_of_ble_eq_true rfl)
  rw [lg_entry_eq]
  generalize (lg_sl ([.ref (ad 3), .int v1]) ++ List.replicate (2 - (lg_sl ([.ref (ad 3), .int v1])).length) Slot.unset).toArray = ls at hl ⊢
  exact w_X1_plainOrBare_0 hm ⟨Nat.le_refl _, Nat.le_refl _⟩ hK hD σ v1 hf _ _ _ hP va_S.rf hl
/-! CallGraphs$Choices.tellPicked(IIJ)I -/
theorem in_X1_tellPicked_X1 : ∀ w ∈ u_ws RX1 TX1 4, w ∈ wsX1_tellPicked := fun w h => List.mem_cons_of_mem _ (List.mem_append_left _ (List.mem_append_left _ (List.mem_append_right _ h)))
def p_X1_tellPicked_97 (σ : SS) (t0 : Int32) : Option (Int32) := some t0
set_option maxHeartbeats 4000000 in
set_option maxRecDepth 100000 in
theorem w_X1_tellPicked_97 {p : Program} {l : Launch} {e : Env} {R : Room} {s : State} {m : MethodId} {args : Array Value} {below : List Frame} {meth : Method} {c : Code} {D : va_G} {ad : Nat → Nat} {cI cJ cZ : ClassId} {res : Int32} (hm : mx p s m args meth c cX1_tellPicked 9 (some .int) wsX1_tellPicked RX1) (hR : 3 ≤ R.frames ∧ 67 ≤ R.locals) (hK : va_K D vwCl (tyw cI cJ cZ) s) (hD : ∀ σ, va_D (aC ad) (wC ad cI cJ cZ σ)) (σ : SS) (t0 : Int32) (hf : p_X1_tellPicked_97 σ t0 = some res) (H : Heap) (locs : List Loc) (ls : Array Slot) (hP : va_P D vwCl (wC ad cI cJ cZ σ) H) (hS : va_S (aC ad) s.heap H locs) (hl : lv_has ls 9 []) : W p l e R s m args below meth c H locs 0 0 (MQ below (va_Qi (fun (r : Int32) (u : SS) => r = res ∧ u = σ) (fun u t => va_P D vwCl (wC ad cI cJ cZ u) t.heap) (aC ad)) args s 0 0 (aC ad)) (F0 m 97 ls [.int t0]) := by
  obtain ⟨hx, hb, hr, hml, hown, hts, hlk⟩ := id hm
  unfold p_X1_tellPicked_97 at hf
  exact rt_i (wd := wC ad cI cJ cZ) hx hb hr hlk ⟨Option.some.inj hf, rfl⟩ hP hS dX1_tellPicked_97
def p_X1_tellPicked_71 (σ : SS) (v3 : Int64) : Option (Int32) := if (lg_cmp v3 0) = 0 then some (-4) else oc (p_J13_bitCount_95d88_0 v3) (fun r_81 => if r_81 = 1 then oc (p_X0_least_0 v3) (fun r_89 => p_X1_tellPicked_97 σ r_89) else p_X1_tellPicked_97 σ (-5))
set_option maxHeartbeats 4000000 in
set_option maxRecDepth 100000 in
theorem w_X1_tellPicked_71 {p : Program} {l : Launch} {e : Env} {R : Room} {s : State} {m : MethodId} {args : Array Value} {below : List Frame} {meth : Method} {c : Code} {D : va_G} {ad : Nat → Nat} {cI cJ cZ : ClassId} {res : Int32} (hm : mx p s m args meth c cX1_tellPicked 9 (some .int) wsX1_tellPicked RX1) (hR : 3 ≤ R.frames ∧ 67 ≤ R.locals) (hK : va_K D vwCl (tyw cI cJ cZ) s) (hD : ∀ σ, va_D (aC ad) (wC ad cI cJ cZ σ)) (σ : SS) (v3 : Int64) (hf : p_X1_tellPicked_71 σ v3 = some res) (H : Heap) (locs : List Loc) (ls : Array Slot) (hP : va_P D vwCl (wC ad cI cJ cZ σ) H) (hS : va_S (aC ad) s.heap H locs) (hl : lv_has ls 9 [(3, .long v3)]) : W p l e R s m args below meth c H locs 0 0 (MQ below (va_Qi (fun (r : Int32) (u : SS) => r = res ∧ u = σ) (fun u t => va_P D vwCl (wC ad cI cJ cZ u) t.heap) (aC ad)) args s 0 0 (aC ad)) (F0 m 71 ls []) := by
  obtain ⟨hx, hb, hr, hml, hown, hts, hlk⟩ := id hm
  unfold p_X1_tellPicked_71 at hf
  refine lv_lload_n hx hb dX1_tellPicked_71 rfl (lv_at hl 0 rfl) ?_
  refine lv_lconst (v := 0) hx hb dX1_tellPicked_72 (by decide) ?_
  refine W.lcmp hx hb dX1_tellPicked_73 ?_
  refine lv_if_ne (tgt := 80) hx hb dX1_tellPicked_74 (by decide) (fun c_74 => ?_) (fun c_74 => ?_)
  · rw [if_neg c_74] at hf
    refine lv_lload_n hx hb dX1_tellPicked_80 rfl (lv_at hl 0 rfl) ?_
    obtain ⟨r_81, hg_81, hf⟩ := oc_e hf
    refine mS_i (D := D) (As := [.long v3]) (rest := []) ⟨hx, hb, hml, hown, hts⟩ hP hS (c_J13_bitCount_95d88 l v3 hg_81) (va_cwS 1 hts gX1_tellPicked_J13_bitCount_95d88 rfl rfl rfl hd_J13_bitCount_95d88 ⟨Nat.le_trans (Nat.le_of_ble_eq_true rfl) hR.1, Nat.le_trans (Nat.le_of_ble_eq_true rfl) hR.2⟩) rfl hl.1 rfl (Nat.le_of_ble_eq_true rfl) dX1_tellPicked_81 (fun H locs hP hS => ?_)
    refine lv_iconst (v := 1) hx hb dX1_tellPicked_84 (by decide) ?_
    refine lv_icmp_ne (tgt := 95) hx hb dX1_tellPicked_85 (by decide) (fun c_85 => ?_) (fun c_85 => ?_)
    · rw [if_neg c_85] at hf
      refine lv_bipush (v := (-5)) hx hb dX1_tellPicked_95 (by decide) ?_
      exact w_X1_tellPicked_97 hm hR hK hD σ (-5) hf _ _ _ hP hS (lv_sub hl [] rfl)
    · rw [if_pos c_85] at hf
      refine lv_lload_n hx hb dX1_tellPicked_88 rfl (lv_at hl 0 rfl) ?_
      obtain ⟨r_89, hg_89, hf⟩ := oc_e hf
      refine mS_i (D := D) (As := [.long v3]) (rest := []) ⟨hx, hb, hml, hown, hts⟩ hP hS (c_X0_least l v3 hg_89) (va_cwS 1 hts gX1_tellPicked_X0_least rfl rfl rfl hd_X0_least ⟨Nat.le_trans (Nat.le_of_ble_eq_true rfl) hR.1, Nat.le_trans (Nat.le_of_ble_eq_true rfl) hR.2⟩) rfl hl.1 rfl (Nat.le_of_ble_eq_true rfl) dX1_tellPicked_89 (fun H locs hP hS => ?_)
      refine lv_goto (tgt := 97) hx hb dX1_tellPicked_92 (by decide) ?_
      exact w_X1_tellPicked_97 hm hR hK hD σ r_89 hf _ _ _ hP hS (lv_sub hl [] rfl)
  · rw [if_pos c_74] at hf
    refine lv_bipush (v := (-4)) hx hb dX1_tellPicked_77 (by decide) ?_
    exact rt_i (wd := wC ad cI cJ cZ) hx hb hr hlk ⟨Option.some.inj hf, rfl⟩ hP hS dX1_tellPicked_79
def p_X1_tellPicked_16 (σ : SS) : Nat → Int32 → Int64 → Int64 → Int32 → Int32 → Option (Int32)
  | 0, _, _, _, _, _ => none
  | n + 1, v2, v3, v5, v7, v8 => let k16 := p_X1_tellPicked_16 σ n; if 16 ≤ v8 then p_X1_tellPicked_71 σ v3 else if v7 = (-1) then p_X1_tellPicked_71 σ v3 else oc (p_X0_has_0 v5 v7) (fun r_33 => if r_33 = 0 then oc (p_X6_superOf_0 σ v7) (fun r_60 => k16 v2 v3 v5 r_60 (v8 + 1)) else oc (p_X4_named_0 σ v7 v2) (fun r_47 => oc (p_X1_plainOrBare_0 σ r_47) (fun r_50 => some r_50)))
set_option maxHeartbeats 4000000 in
set_option maxRecDepth 100000 in
theorem w_X1_tellPicked_16 {p : Program} {l : Launch} {e : Env} {R : Room} {s : State} {m : MethodId} {args : Array Value} {below : List Frame} {meth : Method} {c : Code} {D : va_G} {ad : Nat → Nat} {cI cJ cZ : ClassId} {res : Int32} (hm : mx p s m args meth c cX1_tellPicked 9 (some .int) wsX1_tellPicked RX1) (hR : 3 ≤ R.frames ∧ 67 ≤ R.locals) (hK : va_K D vwCl (tyw cI cJ cZ) s) (hD : ∀ σ, va_D (aC ad) (wC ad cI cJ cZ σ)) (σ : SS) : ∀ (n : Nat) (v2 : Int32) (v3 : Int64) (v5 : Int64) (v7 : Int32) (v8 : Int32), p_X1_tellPicked_16 σ n v2 v3 v5 v7 v8 = some res → ∀ (H : Heap) (locs : List Loc) (ls : Array Slot), va_P D vwCl (wC ad cI cJ cZ σ) H → va_S (aC ad) s.heap H locs → lv_has ls 9 [(0, .ref (ad 3)), (2, .int v2), (3, .long v3), (5, .long v5), (7, .int v7), (8, .int v8)] → W p l e R s m args below meth c H locs 0 0 (MQ below (va_Qi (fun (r : Int32) (u : SS) => r = res ∧ u = σ) (fun u t => va_P D vwCl (wC ad cI cJ cZ u) t.heap) (aC ad)) args s 0 0 (aC ad)) (F0 m 16 ls []) := by
  obtain ⟨hx, hb, hr, hml, hown, hts, hlk⟩ := id hm
  intro n
  induction n with
  | zero =>
    intro _ _ _ _ _ hf
    cases hf
  | succ n hk16 =>
    intro v2 v3 v5 v7 v8 hf H locs ls hP hS hl
    rw [p_X1_tellPicked_16] at hf
    try dsimp only at hf
    refine lv_iload hx hb dX1_tellPicked_16 (lv_at hl 5 rfl) ?_
    refine lv_bipush (v := 16) hx hb dX1_tellPicked_18 (by decide) ?_
    refine lv_icmp_ge (tgt := 71) hx hb dX1_tellPicked_20 (by decide) (fun c_20 => ?_) (fun c_20 => ?_)
    · rw [if_pos c_20] at hf
      exact w_X1_tellPicked_71 hm hR hK hD σ v3 hf _ _ _ hP hS (lv_sub hl [2] rfl)
    · rw [if_neg c_20] at hf
      refine lv_iload hx hb dX1_tellPicked_23 (lv_at hl 4 rfl) ?_
      refine lv_iconst (v := (-1)) hx hb dX1_tellPicked_25 (by decide) ?_
      refine lv_icmp_eq (tgt := 71) hx hb dX1_tellPicked_26 (by decide) (fun c_26 => ?_) (fun c_26 => ?_)
      · rw [if_pos c_26] at hf
        exact w_X1_tellPicked_71 hm hR hK hD σ v3 hf _ _ _ hP hS (lv_sub hl [2] rfl)
      · rw [if_neg c_26] at hf
        refine lv_lload hx hb dX1_tellPicked_29 (lv_at hl 3 rfl) ?_
        refine lv_iload hx hb dX1_tellPicked_31 (lv_at hl 4 rfl) ?_
        obtain ⟨r_33, hg_33, hf⟩ := oc_e hf
        refine mS_i (D := D) (As := [.long v5, .int v7]) (rest := []) ⟨hx, hb, hml, hown, hts⟩ hP hS (c_X0_has l v5 v7 hg_33) (va_cwS 2 hts gX1_tellPicked_X0_has rfl rfl rfl hd_X0_has ⟨Nat.le_trans (Nat.le_of_ble_eq_true rfl) hR.1, Nat.le_trans (Nat.le_of_ble_eq_true rfl) hR.2⟩) rfl hl.1 rfl (Nat.le_of_ble_eq_true rfl) dX1_tellPicked_33 (fun H locs hP hS => ?_)
        refine lv_if_eq (tgt := 54) hx hb dX1_tellPicked_36 (by decide) (fun c_36 => ?_) (fun c_36 => ?_)
        · rw [if_pos c_36] at hf
          refine lv_aload_n hx hb dX1_tellPicked_54 rfl (lv_at hl 0 rfl) ?_
          refine va_get (D := D) (ci := 0) (v := .ref (ad 1)) (C := RX1) (T := TX1) (N := 4) hx hb hts in_X1_tellPicked_X1 hown hK hP 3 (wC_3 _ _ _ _ _) rfl 0 (by decide) (hts (.fieldLink RX1 18 "CallGraphs$Choices" "types" "LCallGraphs$Types;") (List.mem_of_getElem? (i := 2) rfl)) (fun _ h9 => h9) (fC_3_0 _ _) dX1_tellPicked_55 ?_
          refine lv_iload hx hb dX1_tellPicked_58 (lv_at hl 4 rfl) ?_
          obtain ⟨r_60, hg_60, hf⟩ := oc_e hf
          refine mV_ri (wd := wC ad cI cJ cZ) (σ := σ) (As := [.int v7]) (rest := []) ⟨hx, hb, hml, hown, hts⟩ hK hP hD hS (c_X6_superOf l D ad cI cJ cZ σ v7 hg_60) (cwV 1 hts gX1_tellPicked_X6_superOf rfl rfl rfl hd_X6_superOf ⟨Nat.le_trans (Nat.le_of_ble_eq_true rfl) hR.1, Nat.le_trans (Nat.le_of_ble_eq_true rfl) hR.2⟩) rfl (wC_1 _ _ _ _ _) rfl hl.1 rfl (Nat.le_of_ble_eq_true rfl) dX1_tellPicked_60 (fun H locs hP hS => ?_)
          refine lv_istore (lv' := [(7, .int r_60), (0, .ref (ad 3)), (2, .int v2), (3, .long v3), (5, .long v5), (8, .int v8)]) hx hb dX1_tellPicked_63 hl (by decide) rfl (fun ls hl => ?_)
          refine lv_iinc (v := (v8 + 1)) (lv' := [(8, .int (v8 + 1)), (7, .int r_60), (0, .ref (ad 3)), (2, .int v2), (3, .long v3), (5, .long v5)]) hx hb dX1_tellPicked_65 hl (k := 5) rfl rfl (by decide) rfl (fun ls hl => ?_)
          refine lv_goto (tgt := 16) hx hb dX1_tellPicked_68 (by decide) ?_
          exact hk16 v2 v3 v5 r_60 (v8 + 1) hf _ _ _ hP hS (lv_sub hl [2, 3, 4, 5, 1, 0] rfl)
        · rw [if_neg c_36] at hf
          refine lv_aload_n hx hb dX1_tellPicked_39 rfl (lv_at hl 0 rfl) ?_
          refine lv_aload_n hx hb dX1_tellPicked_40 rfl (lv_at hl 0 rfl) ?_
          refine va_get (D := D) (ci := 0) (v := .ref (ad 2)) (C := RX1) (T := TX1) (N := 4) hx hb hts in_X1_tellPicked_X1 hown hK hP 3 (wC_3 _ _ _ _ _) rfl 1 (by decide) (hts (.fieldLink RX1 22 "CallGraphs$Choices" "members" "LCallGraphs$Members;") (List.mem_of_getElem? (i := 1) rfl)) (fun _ h9 => h9) (fC_3_1 _ _) dX1_tellPicked_41 ?_
          refine lv_iload hx hb dX1_tellPicked_44 (lv_at hl 4 rfl) ?_
          refine lv_iload_n hx hb dX1_tellPicked_46 rfl (lv_at hl 1 rfl) ?_
          obtain ⟨r_47, hg_47, hf⟩ := oc_e hf
          refine mV_ri (wd := wC ad cI cJ cZ) (σ := σ) (As := [.int v7, .int v2]) (rest := [.ref (ad 3)]) ⟨hx, hb, hml, hown, hts⟩ hK hP hD hS (c_X4_named l D ad cI cJ cZ σ v7 v2 hg_47) (cwV 2 hts gX1_tellPicked_X4_named rfl rfl rfl hd_X4_named ⟨Nat.le_trans (Nat.le_of_ble_eq_true rfl) hR.1, Nat.le_trans (Nat.le_of_ble_eq_true rfl) hR.2⟩) rfl (wC_2 _ _ _ _ _) rfl hl.1 rfl (Nat.le_of_ble_eq_true rfl) dX1_tellPicked_47 (fun H locs hP hS => ?_)
          obtain ⟨r_50, hg_50, hf⟩ := oc_e hf
          refine mV_ri (wd := wC ad cI cJ cZ) (σ := σ) (As := [.int r_47]) (rest := []) ⟨hx, hb, hml, hown, hts⟩ hK hP hD hS (c_X1_plainOrBare l D ad cI cJ cZ σ r_47 hg_50) (cwV 1 hts gX1_tellPicked_X1_plainOrBare rfl rfl rfl hd_X1_plainOrBare ⟨Nat.le_trans (Nat.le_of_ble_eq_true rfl) hR.1, Nat.le_trans (Nat.le_of_ble_eq_true rfl) hR.2⟩) rfl (wC_3 _ _ _ _ _) rfl hl.1 rfl (Nat.le_of_ble_eq_true rfl) dX1_tellPicked_50 (fun H locs hP hS => ?_)
          exact rt_i (wd := wC ad cI cJ cZ) hx hb hr hlk ⟨Option.some.inj hf, rfl⟩ hP hS dX1_tellPicked_53
def p_X1_tellPicked_0 (σ : SS) (v1 : Int32) (v2 : Int32) (v3 : Int64) : Option (Int32) := oc (p_X4_passersOf_0 σ v2) (fun r_5 => p_X1_tellPicked_16 σ 100000 v2 v3 r_5 v1 0)
set_option maxHeartbeats 4000000 in
set_option maxRecDepth 100000 in
theorem w_X1_tellPicked_0 {p : Program} {l : Launch} {e : Env} {R : Room} {s : State} {m : MethodId} {args : Array Value} {below : List Frame} {meth : Method} {c : Code} {D : va_G} {ad : Nat → Nat} {cI cJ cZ : ClassId} {res : Int32} (hm : mx p s m args meth c cX1_tellPicked 9 (some .int) wsX1_tellPicked RX1) (hR : 3 ≤ R.frames ∧ 67 ≤ R.locals) (hK : va_K D vwCl (tyw cI cJ cZ) s) (hD : ∀ σ, va_D (aC ad) (wC ad cI cJ cZ σ)) (σ : SS) (v1 : Int32) (v2 : Int32) (v3 : Int64) (hf : p_X1_tellPicked_0 σ v1 v2 v3 = some res) (H : Heap) (locs : List Loc) (ls : Array Slot) (hP : va_P D vwCl (wC ad cI cJ cZ σ) H) (hS : va_S (aC ad) s.heap H locs) (hl : lv_has ls 9 [(0, .ref (ad 3)), (1, .int v1), (2, .int v2), (3, .long v3)]) : W p l e R s m args below meth c H locs 0 0 (MQ below (va_Qi (fun (r : Int32) (u : SS) => r = res ∧ u = σ) (fun u t => va_P D vwCl (wC ad cI cJ cZ u) t.heap) (aC ad)) args s 0 0 (aC ad)) (F0 m 0 ls []) := by
  obtain ⟨hx, hb, hr, hml, hown, hts, hlk⟩ := id hm
  unfold p_X1_tellPicked_0 at hf
  refine lv_aload_n hx hb dX1_tellPicked_0 rfl (lv_at hl 0 rfl) ?_
  refine va_get (D := D) (ci := 0) (v := .ref (ad 2)) (C := RX1) (T := TX1) (N := 4) hx hb hts in_X1_tellPicked_X1 hown hK hP 3 (wC_3 _ _ _ _ _) rfl 1 (by decide) (hts (.fieldLink RX1 22 "CallGraphs$Choices" "members" "LCallGraphs$Members;") (List.mem_of_getElem? (i := 1) rfl)) (fun _ h9 => h9) (fC_3_1 _ _) dX1_tellPicked_1 ?_
  refine lv_iload_n hx hb dX1_tellPicked_4 rfl (lv_at hl 2 rfl) ?_
  obtain ⟨r_5, hg_5, hf⟩ := oc_e hf
  refine mV_rl (wd := wC ad cI cJ cZ) (σ := σ) (As := [.int v2]) (rest := []) ⟨hx, hb, hml, hown, hts⟩ hK hP hD hS (c_X4_passersOf l D ad cI cJ cZ σ v2 hg_5) (cwV 1 hts gX1_tellPicked_X4_passersOf rfl rfl rfl hd_X4_passersOf ⟨Nat.le_trans (Nat.le_of_ble_eq_true rfl) hR.1, Nat.le_trans (Nat.le_of_ble_eq_true rfl) hR.2⟩) rfl (wC_2 _ _ _ _ _) rfl hl.1 rfl (Nat.le_of_ble_eq_true rfl) dX1_tellPicked_5 (fun H locs hP hS => ?_)
  refine lv_lstore (lv' := [(5, .long r_5), (0, .ref (ad 3)), (1, .int v1), (2, .int v2), (3, .long v3)]) hx hb dX1_tellPicked_8 hl (by decide) rfl (fun ls hl => ?_)
  refine lv_iload_n hx hb dX1_tellPicked_10 rfl (lv_at hl 2 rfl) ?_
  refine lv_istore (lv' := [(7, .int v1), (5, .long r_5), (0, .ref (ad 3)), (1, .int v1), (2, .int v2), (3, .long v3)]) hx hb dX1_tellPicked_11 hl (by decide) rfl (fun ls hl => ?_)
  refine lv_iconst (v := 0) hx hb dX1_tellPicked_13 (by decide) ?_
  refine lv_istore (lv' := [(8, .int 0), (7, .int v1), (5, .long r_5), (0, .ref (ad 3)), (1, .int v1), (2, .int v2), (3, .long v3)]) hx hb dX1_tellPicked_14 hl (by decide) rfl (fun ls hl => ?_)
  exact w_X1_tellPicked_16 hm hR hK hD σ 100000 v2 v3 r_5 v1 0 hf _ _ _ hP hS (lv_sub hl [3, 5, 6, 2, 1, 0] rfl)
theorem hd_X1_tellPicked : yX1_tellPicked.cls = RX1 ∧ yX1_tellPicked.cls ≠ "java/lang/invoke/MethodHandle" ∧ yX1_tellPicked.cls ≠ "java/lang/invoke/VarHandle" ∧ (parseMethodDescriptor yX1_tellPicked.desc).map (fun d => d.parameters.length) = some 3 := by decide +kernel
set_option maxHeartbeats 4000000 in
set_option maxRecDepth 100000 in
theorem c_X1_tellPicked (l : Launch) (D : va_G) (ad : Nat → Nat) (cI cJ cZ : ClassId) (σ : SS) (v1 : Int32) (v2 : Int32) (v3 : Int64) {res : Int32} (hf : p_X1_tellPicked_0 σ v1 v2 v3 = some res) : Met l yX1_tellPicked wsX1_tellPicked ({ frames := 3, cells := 0, slots := 0, locals := 67 } : Room) (PW D (tyw cI cJ cZ) (wC ad cI cJ cZ σ) [.ref (ad 3), .int v1, .int v2, .long v3]) (va_Qi (fun (r : Int32) (u : SS) => r = res ∧ u = σ) (fun u t => va_P D vwCl (wC ad cI cJ cZ u) t.heap) (aC ad)) 0 0 (aC ad) := by
  refine Met.ofW (cc := cX1_tellPicked) (maxL := 9) (ret := (some .int)) (by decide) rfl ?_
  intro p e s m args below meth c s₁ B hml hv
  obtain ⟨rfl, hP, hK, hD0⟩ := hv
  have hD : ∀ σ, va_D (aC ad) (wC ad cI cJ cZ σ) := fun σ => wd_D hD0 (wC_map _ _ _ _ _) (wC_map _ _ _ _ _)
  have hm : mx p s m _ meth c cX1_tellPicked 9 (some .int) wsX1_tellPicked RX1 := ⟨B.exec, B.bytes, B.returns, hml, findClass_of_methodNamed B.named, atoms_spec (ws := wsX1_tellPicked) B.pre, B.notSynchronized⟩
  have hl := lv_entry ([.ref (ad 3), .int v1, .int v2, .long v3]) (n := 9) (Nat.le_of_ble_eq_true rfl)
  rw [lg_entry_eq]
  generalize (lg_sl ([.ref (ad 3), .int v1, .int v2, .long v3]) ++ List.replicate (9 - (lg_sl ([.ref (ad 3), .int v1, .int v2, .long v3])).length) Slot.unset).toArray = ls at hl ⊢
  exact w_X1_tellPicked_0 hm ⟨Nat.le_refl _, Nat.le_refl _⟩ hK hD σ v1 v2 v3 hf _ _ _ hP va_S.rf hl
/-! CallGraphs$Choices.tell(I)V -/
theorem in_X1_tell_X1 : ∀ w ∈ u_ws RX1 TX1 4, w ∈ wsX1_tell := fun w h => List.mem_cons_of_mem _ (List.mem_append_left _ (List.mem_append_left _ (List.mem_append_right _ h)))
def p_X1_tell_2 : Nat → Int32 → Int32 → SS → Option (SS)
  | 0, _, _, _ => none
  | n + 1, v1, v2, σ => let k2 := p_X1_tell_2 n; oc (p_X6_size_0 σ) (fun r_7 => if r_7 ≤ v2 then some σ else oc (p_X1_leftOf_0 σ v2 v1) (fun r_16 => oc (p_X4_plainOnes_0 σ) (fun r_25 => oc (p_X1_tellFound_0 σ v2 v1 r_16 (r_16 &&& r_25)) (fun r_47 => oi ((v2 * 10) + v1) 160 (os (sI σ 17 (((v2 * 10) + v1).toNatClampNeg) r_47) (fun s_50 => oc (p_X1_tellPicked_0 s_50 v2 v1 (r_16 &&& r_25)) (fun r_66 => oi ((v2 * 10) + v1) 160 (os (sI s_50 18 (((v2 * 10) + v1).toNatClampNeg) r_66) (fun s_69 => k2 v1 (v2 + 1) s_69)))))))))
set_option maxHeartbeats 4000000 in
set_option maxRecDepth 100000 in
theorem w_X1_tell_2 {p : Program} {l : Launch} {e : Env} {R : Room} {s : State} {m : MethodId} {args : Array Value} {below : List Frame} {meth : Method} {c : Code} {D : va_G} {ad : Nat → Nat} {cI cJ cZ : ClassId} {res : SS} (hm : mx p s m args meth c cX1_tell 7 none wsX1_tell RX1) (hR : 4 ≤ R.frames ∧ 96 ≤ R.locals) (hK : va_K D vwCl (tyw cI cJ cZ) s) (hD : ∀ σ, va_D (aC ad) (wC ad cI cJ cZ σ)) : ∀ (n : Nat) (v1 : Int32) (v2 : Int32) (σ : SS), p_X1_tell_2 n v1 v2 σ = some res → ∀ (H : Heap) (locs : List Loc) (ls : Array Slot), va_P D vwCl (wC ad cI cJ cZ σ) H → va_S (aC ad) s.heap H locs → lv_has ls 7 [(0, .ref (ad 3)), (1, .int v1), (2, .int v2)] → W p l e R s m args below meth c H locs 0 0 (MQ below (va_Qv (fun (u : SS) => u = res) (fun u t => va_P D vwCl (wC ad cI cJ cZ u) t.heap) (aC ad)) args s 0 0 (aC ad)) (F0 m 2 ls []) := by
  obtain ⟨hx, hb, hr, hml, hown, hts, hlk⟩ := id hm
  intro n
  induction n with
  | zero =>
    intro _ _ _ hf
    cases hf
  | succ n hk2 =>
    intro v1 v2 σ hf H locs ls hP hS hl
    rw [p_X1_tell_2] at hf
    try dsimp only at hf
    refine lv_iload_n hx hb dX1_tell_2 rfl (lv_at hl 2 rfl) ?_
    refine lv_aload_n hx hb dX1_tell_3 rfl (lv_at hl 0 rfl) ?_
    refine va_get (D := D) (ci := 0) (v := .ref (ad 1)) (C := RX1) (T := TX1) (N := 4) hx hb hts in_X1_tell_X1 hown hK hP 3 (wC_3 _ _ _ _ _) rfl 0 (by decide) (hts (.fieldLink RX1 18 "CallGraphs$Choices" "types" "LCallGraphs$Types;") (List.mem_of_getElem? (i := 1) rfl)) (fun _ h9 => h9) (fC_3_0 _ _) dX1_tell_4 ?_
    obtain ⟨r_7, hg_7, hf⟩ := oc_e hf
    refine mV_ri (wd := wC ad cI cJ cZ) (σ := σ) (As := []) (rest := [.int v2]) ⟨hx, hb, hml, hown, hts⟩ hK hP hD hS (c_X6_size l D ad cI cJ cZ σ hg_7) (cwV 0 hts gX1_tell_X6_size rfl rfl rfl hd_X6_size ⟨Nat.le_trans (Nat.le_of_ble_eq_true rfl) hR.1, Nat.le_trans (Nat.le_of_ble_eq_true rfl) hR.2⟩) rfl (wC_1 _ _ _ _ _) rfl hl.1 rfl (Nat.le_of_ble_eq_true rfl) dX1_tell_7 (fun H locs hP hS => ?_)
    refine lv_icmp_ge (tgt := 76) hx hb dX1_tell_10 (by decide) (fun c_10 => ?_) (fun c_10 => ?_)
    · rw [if_pos c_10] at hf
      exact rt_v (wd := wC ad cI cJ cZ) hx hb hr hlk (Option.some.inj hf) hP hS dX1_tell_76
    · rw [if_neg c_10] at hf
      refine lv_aload_n hx hb dX1_tell_13 rfl (lv_at hl 0 rfl) ?_
      refine lv_iload_n hx hb dX1_tell_14 rfl (lv_at hl 2 rfl) ?_
      refine lv_iload_n hx hb dX1_tell_15 rfl (lv_at hl 1 rfl) ?_
      obtain ⟨r_16, hg_16, hf⟩ := oc_e hf
      refine mV_rl (wd := wC ad cI cJ cZ) (σ := σ) (As := [.int v2, .int v1]) (rest := []) ⟨hx, hb, hml, hown, hts⟩ hK hP hD hS (c_X1_leftOf l D ad cI cJ cZ σ v2 v1 hg_16) (cwV 2 hts gX1_tell_X1_leftOf rfl rfl rfl hd_X1_leftOf ⟨Nat.le_trans (Nat.le_of_ble_eq_true rfl) hR.1, Nat.le_trans (Nat.le_of_ble_eq_true rfl) hR.2⟩) rfl (wC_3 _ _ _ _ _) rfl hl.1 rfl (Nat.le_of_ble_eq_true rfl) dX1_tell_16 (fun H locs hP hS => ?_)
      refine lv_lstore_n (lv' := [(3, .long r_16), (0, .ref (ad 3)), (1, .int v1), (2, .int v2)]) hx hb dX1_tell_19 rfl hl (by decide) rfl (fun ls hl => ?_)
      refine lv_lload_n hx hb dX1_tell_20 rfl (lv_at hl 0 rfl) ?_
      refine lv_aload_n hx hb dX1_tell_21 rfl (lv_at hl 1 rfl) ?_
      refine va_get (D := D) (ci := 0) (v := .ref (ad 2)) (C := RX1) (T := TX1) (N := 4) hx hb hts in_X1_tell_X1 hown hK hP 3 (wC_3 _ _ _ _ _) rfl 1 (by decide) (hts (.fieldLink RX1 22 "CallGraphs$Choices" "members" "LCallGraphs$Members;") (List.mem_of_getElem? (i := 2) rfl)) (fun _ h9 => h9) (fC_3_1 _ _) dX1_tell_22 ?_
      obtain ⟨r_25, hg_25, hf⟩ := oc_e hf
      refine mV_rl (wd := wC ad cI cJ cZ) (σ := σ) (As := []) (rest := [.long r_16]) ⟨hx, hb, hml, hown, hts⟩ hK hP hD hS (c_X4_plainOnes l D ad cI cJ cZ σ hg_25) (cwV 0 hts gX1_tell_X4_plainOnes rfl rfl rfl hd_X4_plainOnes ⟨Nat.le_trans (Nat.le_of_ble_eq_true rfl) hR.1, Nat.le_trans (Nat.le_of_ble_eq_true rfl) hR.2⟩) rfl (wC_2 _ _ _ _ _) rfl hl.1 rfl (Nat.le_of_ble_eq_true rfl) dX1_tell_25 (fun H locs hP hS => ?_)
      refine lv_land hx hb dX1_tell_28 ?_
      refine lv_lstore (lv' := [(5, .long (r_16 &&& r_25)), (3, .long r_16), (0, .ref (ad 3)), (1, .int v1), (2, .int v2)]) hx hb dX1_tell_29 hl (by decide) rfl (fun ls hl => ?_)
      refine lv_aload_n hx hb dX1_tell_31 rfl (lv_at hl 2 rfl) ?_
      refine va_get (D := D) (ci := 0) (v := .ref (ad 17)) (C := RX1) (T := TX1) (N := 4) hx hb hts in_X1_tell_X1 hown hK hP 3 (wC_3 _ _ _ _ _) rfl 2 (by decide) (hts (.fieldLink RX1 9 "CallGraphs$Choices" "finds" "[I") (List.mem_of_getElem? (i := 3) rfl)) (fun _ h9 => h9) (fC_3_2 _ _) dX1_tell_32 ?_
      refine lv_iload_n hx hb dX1_tell_35 rfl (lv_at hl 4 rfl) ?_
      refine lv_bipush (v := 10) hx hb dX1_tell_36 (by decide) ?_
      refine lv_imul hx hb dX1_tell_38 ?_
      refine lv_iload_n hx hb dX1_tell_39 rfl (lv_at hl 3 rfl) ?_
      refine lv_iadd hx hb dX1_tell_40 ?_
      refine lv_aload_n hx hb dX1_tell_41 rfl (lv_at hl 2 rfl) ?_
      refine lv_iload_n hx hb dX1_tell_42 rfl (lv_at hl 4 rfl) ?_
      refine lv_iload_n hx hb dX1_tell_43 rfl (lv_at hl 3 rfl) ?_
      refine lv_lload_n hx hb dX1_tell_44 rfl (lv_at hl 1 rfl) ?_
      refine lv_lload hx hb dX1_tell_45 (lv_at hl 0 rfl) ?_
      obtain ⟨r_47, hg_47, hf⟩ := oc_e hf
      refine mV_ri (wd := wC ad cI cJ cZ) (σ := σ) (As := [.int v2, .int v1, .long r_16, .long (r_16 &&& r_25)]) (rest := [.int ((v2 * 10) + v1), .ref (ad 17)]) ⟨hx, hb, hml, hown, hts⟩ hK hP hD hS (c_X1_tellFound l D ad cI cJ cZ σ v2 v1 r_16 (r_16 &&& r_25) hg_47) (cwV 4 hts gX1_tell_X1_tellFound rfl rfl rfl hd_X1_tellFound ⟨Nat.le_trans (Nat.le_of_ble_eq_true rfl) hR.1, Nat.le_trans (Nat.le_of_ble_eq_true rfl) hR.2⟩) rfl (wC_3 _ _ _ _ _) rfl hl.1 rfl (Nat.le_of_ble_eq_true rfl) dX1_tell_47 (fun H locs hP hS => ?_)
      obtain ⟨h_50, hf⟩ := oi_e hf
      refine va_iast hx hb hK hP (hD _) hS 17 0 (wC_17 _ _ _ _ _) rfl h_50 dX1_tell_50 (fun H locs hP _ hS => ?_)
      have hP := wC_s17 hP
      obtain ⟨s_50, es_50, hf⟩ := os_e hf
      rw [← es_50] at hP
      refine lv_aload_n hx hb dX1_tell_51 rfl (lv_at hl 2 rfl) ?_
      refine va_get (D := D) (ci := 0) (v := .ref (ad 18)) (C := RX1) (T := TX1) (N := 4) hx hb hts in_X1_tell_X1 hown hK hP 3 (wC_3 _ _ _ _ _) rfl 3 (by decide) (hts (.fieldLink RX1 15 "CallGraphs$Choices" "picks" "[I") (List.mem_of_getElem? (i := 4) rfl)) (fun _ h9 => h9) (fC_3_3 _ _) dX1_tell_52 ?_
      refine lv_iload_n hx hb dX1_tell_55 rfl (lv_at hl 4 rfl) ?_
      refine lv_bipush (v := 10) hx hb dX1_tell_56 (by decide) ?_
      refine lv_imul hx hb dX1_tell_58 ?_
      refine lv_iload_n hx hb dX1_tell_59 rfl (lv_at hl 3 rfl) ?_
      refine lv_iadd hx hb dX1_tell_60 ?_
      refine lv_aload_n hx hb dX1_tell_61 rfl (lv_at hl 2 rfl) ?_
      refine lv_iload_n hx hb dX1_tell_62 rfl (lv_at hl 4 rfl) ?_
      refine lv_iload_n hx hb dX1_tell_63 rfl (lv_at hl 3 rfl) ?_
      refine lv_lload hx hb dX1_tell_64 (lv_at hl 0 rfl) ?_
      obtain ⟨r_66, hg_66, hf⟩ := oc_e hf
      refine mV_ri (wd := wC ad cI cJ cZ) (σ := s_50) (As := [.int v2, .int v1, .long (r_16 &&& r_25)]) (rest := [.int ((v2 * 10) + v1), .ref (ad 18)]) ⟨hx, hb, hml, hown, hts⟩ hK hP hD hS (c_X1_tellPicked l D ad cI cJ cZ s_50 v2 v1 (r_16 &&& r_25) hg_66) (cwV 3 hts gX1_tell_X1_tellPicked rfl rfl rfl hd_X1_tellPicked ⟨Nat.le_trans (Nat.le_of_ble_eq_true rfl) hR.1, Nat.le_trans (Nat.le_of_ble_eq_true rfl) hR.2⟩) rfl (wC_3 _ _ _ _ _) rfl hl.1 rfl (Nat.le_of_ble_eq_true rfl) dX1_tell_66 (fun H locs hP hS => ?_)
      obtain ⟨h_69, hf⟩ := oi_e hf
      refine va_iast hx hb hK hP (hD _) hS 18 0 (wC_18 _ _ _ _ _) rfl h_69 dX1_tell_69 (fun H locs hP _ hS => ?_)
      have hP := wC_s18 hP
      obtain ⟨s_69, es_69, hf⟩ := os_e hf
      rw [← es_69] at hP
      refine lv_iinc (v := (v2 + 1)) (lv' := [(2, .int (v2 + 1)), (5, .long (r_16 &&& r_25)), (3, .long r_16), (0, .ref (ad 3)), (1, .int v1)]) hx hb dX1_tell_70 hl (k := 4) rfl rfl (by decide) rfl (fun ls hl => ?_)
      refine lv_goto (tgt := 2) hx hb dX1_tell_73 (by decide) ?_
      exact hk2 v1 (v2 + 1) s_69 hf _ _ _ hP hS (lv_sub hl [3, 4, 0] rfl)
def p_X1_tell_0 (v1 : Int32) (σ : SS) : Option (SS) := p_X1_tell_2 100000 v1 0 σ
set_option maxHeartbeats 4000000 in
set_option maxRecDepth 100000 in
theorem w_X1_tell_0 {p : Program} {l : Launch} {e : Env} {R : Room} {s : State} {m : MethodId} {args : Array Value} {below : List Frame} {meth : Method} {c : Code} {D : va_G} {ad : Nat → Nat} {cI cJ cZ : ClassId} {res : SS} (hm : mx p s m args meth c cX1_tell 7 none wsX1_tell RX1) (hR : 4 ≤ R.frames ∧ 96 ≤ R.locals) (hK : va_K D vwCl (tyw cI cJ cZ) s) (hD : ∀ σ, va_D (aC ad) (wC ad cI cJ cZ σ)) (v1 : Int32) (σ : SS) (hf : p_X1_tell_0 v1 σ = some res) (H : Heap) (locs : List Loc) (ls : Array Slot) (hP : va_P D vwCl (wC ad cI cJ cZ σ) H) (hS : va_S (aC ad) s.heap H locs) (hl : lv_has ls 7 [(0, .ref (ad 3)), (1, .int v1)]) : W p l e R s m args below meth c H locs 0 0 (MQ below (va_Qv (fun (u : SS) => u = res) (fun u t => va_P D vwCl (wC ad cI cJ cZ u) t.heap) (aC ad)) args s 0 0 (aC ad)) (F0 m 0 ls []) := by
  obtain ⟨hx, hb, hr, hml, hown, hts, hlk⟩ := id hm
  unfold p_X1_tell_0 at hf
  refine lv_iconst (v := 0) hx hb dX1_tell_0 (by decide) ?_
  refine lv_istore_n (lv' := [(2, .int 0), (0, .ref (ad 3)), (1, .int v1)]) hx hb dX1_tell_1 rfl hl (by decide) rfl (fun ls hl => ?_)
  exact w_X1_tell_2 hm hR hK hD 100000 v1 0 σ hf _ _ _ hP hS (lv_sub hl [1, 2, 0] rfl)
theorem hd_X1_tell : yX1_tell.cls = RX1 ∧ yX1_tell.cls ≠ "java/lang/invoke/MethodHandle" ∧ yX1_tell.cls ≠ "java/lang/invoke/VarHandle" ∧ (parseMethodDescriptor yX1_tell.desc).map (fun d => d.parameters.length) = some 1 := by decide +kernel
set_option maxHeartbeats 4000000 in
set_option maxRecDepth 100000 in
theorem c_X1_tell (l : Launch) (D : va_G) (ad : Nat → Nat) (cI cJ cZ : ClassId) (σ : SS) (v1 : Int32) {res : SS} (hf : p_X1_tell_0 v1 σ = some res) : Met l yX1_tell wsX1_tell ({ frames := 4, cells := 0, slots := 0, locals := 96 } : Room) (PW D (tyw cI cJ cZ) (wC ad cI cJ cZ σ) [.ref (ad 3), .int v1]) (va_Qv (fun (u : SS) => u = res) (fun u t => va_P D vwCl (wC ad cI cJ cZ u) t.heap) (aC ad)) 0 0 (aC ad) := by
  refine Met.ofW (cc := cX1_tell) (maxL := 7) (ret := none) (by decide) rfl ?_
  intro p e s m args below meth c s₁ B hml hv
  obtain ⟨rfl, hP, hK, hD0⟩ := hv
  have hD : ∀ σ, va_D (aC ad) (wC ad cI cJ cZ σ) := fun σ => wd_D hD0 (wC_map _ _ _ _ _) (wC_map _ _ _ _ _)
  have hm : mx p s m _ meth c cX1_tell 7 none wsX1_tell RX1 := ⟨B.exec, B.bytes, B.returns, hml, findClass_of_methodNamed B.named, atoms_spec (ws := wsX1_tell) B.pre, B.notSynchronized⟩
  have hl := lv_entry ([.ref (ad 3), .int v1]) (n := 7) (Nat.le_of_ble_eq_true rfl)
  rw [lg_entry_eq]
  generalize (lg_sl ([.ref (ad 3), .int v1]) ++ List.replicate (7 - (lg_sl ([.ref (ad 3), .int v1])).length) Slot.unset).toArray = ls at hl ⊢
  exact w_X1_tell_0 hm ⟨Nat.le_refl _, Nat.le_refl _⟩ hK hD v1 σ hf _ _ _ hP va_S.rf hl
/-! CallGraphs$Choices.tellAll()V -/

def p_X1_tellAll_2 : Nat → Int32 → SS → Option (SS)
  | 0, _, _ => none
  | n + 1, v1, σ => let k2 := p_X1_tellAll_2 n; if 10 ≤ v1 then some σ else oc (p_X1_tell_0 v1 σ) (fun r_10 => k2 (v1 + 1) r_10)
set_option maxHeartbeats 4000000 in
set_option maxRecDepth 100000 in
theorem w_X1_tellAll_2 {p : Program} {l : Launch} {e : Env} {R : Room} {s : State} {m : MethodId} {args : Array Value} {below : List Frame} {meth : Method} {c : Code} {D : va_G} {ad : Nat → Nat} {cI cJ cZ : ClassId} {res : SS} (hm : mx p s m args meth c cX1_tellAll 2 none wsX1_tellAll RX1) (hR : 5 ≤ R.frames ∧ 122 ≤ R.locals) (hK : va_K D vwCl (tyw cI cJ cZ) s) (hD : ∀ σ, va_D (aC ad) (wC ad cI cJ cZ σ)) : ∀ (n : Nat) (v1 : Int32) (σ : SS), p_X1_tellAll_2 n v1 σ = some res → ∀ (H : Heap) (locs : List Loc) (ls : Array Slot), va_P D vwCl (wC ad cI cJ cZ σ) H → va_S (aC ad) s.heap H locs → lv_has ls 2 [(0, .ref (ad 3)), (1, .int v1)] → W p l e R s m args below meth c H locs 0 0 (MQ below (va_Qv (fun (u : SS) => u = res) (fun u t => va_P D vwCl (wC ad cI cJ cZ u) t.heap) (aC ad)) args s 0 0 (aC ad)) (F0 m 2 ls []) := by
  obtain ⟨hx, hb, hr, hml, hown, hts, hlk⟩ := id hm
  intro n
  induction n with
  | zero =>
    intro _ _ hf
    cases hf
  | succ n hk2 =>
    intro v1 σ hf H locs ls hP hS hl
    rw [p_X1_tellAll_2] at hf
    try dsimp only at hf
    refine lv_iload_n hx hb dX1_tellAll_2 rfl (lv_at hl 1 rfl) ?_
    refine lv_bipush (v := 10) hx hb dX1_tellAll_3 (by decide) ?_
    refine lv_icmp_ge (tgt := 19) hx hb dX1_tellAll_5 (by decide) (fun c_5 => ?_) (fun c_5 => ?_)
    · rw [if_pos c_5] at hf
      exact rt_v (wd := wC ad cI cJ cZ) hx hb hr hlk (Option.some.inj hf) hP hS dX1_tellAll_19
    · rw [if_neg c_5] at hf
      refine lv_aload_n hx hb dX1_tellAll_8 rfl (lv_at hl 0 rfl) ?_
      refine lv_iload_n hx hb dX1_tellAll_9 rfl (lv_at hl 1 rfl) ?_
      obtain ⟨r_10, hg_10, hf⟩ := oc_e hf
      refine mV_wv (wd := wC ad cI cJ cZ) (σ := σ) (As := [.int v1]) (rest := []) ⟨hx, hb, hml, hown, hts⟩ hK hP hD hS (c_X1_tell l D ad cI cJ cZ σ v1 hg_10) (cwV 1 hts gX1_tellAll_X1_tell rfl rfl rfl hd_X1_tell ⟨Nat.le_trans (Nat.le_of_ble_eq_true rfl) hR.1, Nat.le_trans (Nat.le_of_ble_eq_true rfl) hR.2⟩) rfl (wC_3 _ _ _ _ _) rfl hl.1 rfl (Nat.le_of_ble_eq_true rfl) dX1_tellAll_10 (fun H locs hP hS => ?_)
      refine lv_iinc (v := (v1 + 1)) (lv' := [(1, .int (v1 + 1)), (0, .ref (ad 3))]) hx hb dX1_tellAll_13 hl (k := 1) rfl rfl (by decide) rfl (fun ls hl => ?_)
      refine lv_goto (tgt := 2) hx hb dX1_tellAll_16 (by decide) ?_
      exact hk2 (v1 + 1) r_10 hf _ _ _ hP hS (lv_sub hl [1, 0] rfl)
def p_X1_tellAll_0 (σ : SS) : Option (SS) := p_X1_tellAll_2 100000 0 σ
set_option maxHeartbeats 4000000 in
set_option maxRecDepth 100000 in
theorem w_X1_tellAll_0 {p : Program} {l : Launch} {e : Env} {R : Room} {s : State} {m : MethodId} {args : Array Value} {below : List Frame} {meth : Method} {c : Code} {D : va_G} {ad : Nat → Nat} {cI cJ cZ : ClassId} {res : SS} (hm : mx p s m args meth c cX1_tellAll 2 none wsX1_tellAll RX1) (hR : 5 ≤ R.frames ∧ 122 ≤ R.locals) (hK : va_K D vwCl (tyw cI cJ cZ) s) (hD : ∀ σ, va_D (aC ad) (wC ad cI cJ cZ σ)) (σ : SS) (hf : p_X1_tellAll_0 σ = some res) (H : Heap) (locs : List Loc) (ls : Array Slot) (hP : va_P D vwCl (wC ad cI cJ cZ σ) H) (hS : va_S (aC ad) s.heap H locs) (hl : lv_has ls 2 [(0, .ref (ad 3))]) : W p l e R s m args below meth c H locs 0 0 (MQ below (va_Qv (fun (u : SS) => u = res) (fun u t => va_P D vwCl (wC ad cI cJ cZ u) t.heap) (aC ad)) args s 0 0 (aC ad)) (F0 m 0 ls []) := by
  obtain ⟨hx, hb, hr, hml, hown, hts, hlk⟩ := id hm
  unfold p_X1_tellAll_0 at hf
  refine lv_iconst (v := 0) hx hb dX1_tellAll_0 (by decide) ?_
  refine lv_istore_n (lv' := [(1, .int 0), (0, .ref (ad 3))]) hx hb dX1_tellAll_1 rfl hl (by decide) rfl (fun ls hl => ?_)
  exact w_X1_tellAll_2 hm hR hK hD 100000 0 σ hf _ _ _ hP hS (lv_sub hl [1, 0] rfl)
theorem hd_X1_tellAll : yX1_tellAll.cls = RX1 ∧ yX1_tellAll.cls ≠ "java/lang/invoke/MethodHandle" ∧ yX1_tellAll.cls ≠ "java/lang/invoke/VarHandle" ∧ (parseMethodDescriptor yX1_tellAll.desc).map (fun d => d.parameters.length) = some 0 := by decide +kernel
set_option maxHeartbeats 4000000 in
set_option maxRecDepth 100000 in
theorem c_X1_tellAll (l : Launch) (D : va_G) (ad : Nat → Nat) (cI cJ cZ : ClassId) (σ : SS) {res : SS} (hf : p_X1_tellAll_0 σ = some res) : Met l yX1_tellAll wsX1_tellAll ({ frames := 5, cells := 0, slots := 0, locals := 122 } : Room) (PW D (tyw cI cJ cZ) (wC ad cI cJ cZ σ) [.ref (ad 3)]) (va_Qv (fun (u : SS) => u = res) (fun u t => va_P D vwCl (wC ad cI cJ cZ u) t.heap) (aC ad)) 0 0 (aC ad) := by
  refine Met.ofW (cc := cX1_tellAll) (maxL := 2) (ret := none) (by decide) rfl ?_
  intro p e s m args below meth c s₁ B hml hv
  obtain ⟨rfl, hP, hK, hD0⟩ := hv
  have hD : ∀ σ, va_D (aC ad) (wC ad cI cJ cZ σ) := fun σ => wd_D hD0 (wC_map _ _ _ _ _) (wC_map _ _ _ _ _)
  have hm : mx p s m _ meth c cX1_tellAll 2 none wsX1_tellAll RX1 := ⟨B.exec, B.bytes, B.returns, hml, findClass_of_methodNamed B.named, atoms_spec (ws := wsX1_tellAll) B.pre, B.notSynchronized⟩
  have hl := lv_entry ([.ref (ad 3)]) (n := 2) (Nat.le_of_ble_eq_true rfl)
  rw [lg_entry_eq]
  generalize (lg_sl ([.ref (ad 3)]) ++ List.replicate (2 - (lg_sl ([.ref (ad 3)])).length) Slot.unset).toArray = ls at hl ⊢
  exact w_X1_tellAll_0 hm ⟨Nat.le_refl _, Nat.le_refl _⟩ hK hD σ hf _ _ _ hP va_S.rf hl
/-! CallGraphs$Choices.find(II)I -/
theorem in_X1_find_X1 : ∀ w ∈ u_ws RX1 TX1 4, w ∈ wsX1_find := fun w h => List.mem_cons_of_mem _ (List.mem_append_right _ h)
def p_X1_find_0 (σ : SS) (v1 : Int32) (v2 : Int32) : Option (Int32) := oi ((v1 * 10) + v2) 160 (some (σ.1 17 ((v1 * 10) + v2).toNatClampNeg))
set_option maxHeartbeats 4000000 in
set_option maxRecDepth 100000 in
theorem w_X1_find_0 {p : Program} {l : Launch} {e : Env} {R : Room} {s : State} {m : MethodId} {args : Array Value} {below : List Frame} {meth : Method} {c : Code} {D : va_G} {ad : Nat → Nat} {cI cJ cZ : ClassId} {res : Int32} (hm : mx p s m args meth c cX1_find 3 (some .int) wsX1_find RX1) (hR : 0 ≤ R.frames ∧ 0 ≤ R.locals) (hK : va_K D vwCl (tyw cI cJ cZ) s) (hD : ∀ σ, va_D (aC ad) (wC ad cI cJ cZ σ)) (σ : SS) (v1 : Int32) (v2 : Int32) (hf : p_X1_find_0 σ v1 v2 = some res) (H : Heap) (locs : List Loc) (ls : Array Slot) (hP : va_P D vwCl (wC ad cI cJ cZ σ) H) (hS : va_S (aC ad) s.heap H locs) (hl : lv_has ls 3 [(0, .ref (ad 3)), (1, .int v1), (2, .int v2)]) : W p l e R s m args below meth c H locs 0 0 (MQ below (va_Qi (fun (r : Int32) (u : SS) => r = res ∧ u = σ) (fun u t => va_P D vwCl (wC ad cI cJ cZ u) t.heap) (aC ad)) args s 0 0 (aC ad)) (F0 m 0 ls []) := by
  obtain ⟨hx, hb, hr, hml, hown, hts, hlk⟩ := id hm
  unfold p_X1_find_0 at hf
  refine lv_aload_n hx hb dX1_find_0 rfl (lv_at hl 0 rfl) ?_
  refine va_get (D := D) (ci := 0) (v := .ref (ad 17)) (C := RX1) (T := TX1) (N := 4) hx hb hts in_X1_find_X1 hown hK hP 3 (wC_3 _ _ _ _ _) rfl 2 (by decide) (hts (.fieldLink RX1 9 "CallGraphs$Choices" "finds" "[I") (List.mem_of_getElem? (i := 1) rfl)) (fun _ h9 => h9) (fC_3_2 _ _) dX1_find_1 ?_
  refine lv_iload_n hx hb dX1_find_4 rfl (lv_at hl 1 rfl) ?_
  refine lv_bipush (v := 10) hx hb dX1_find_5 (by decide) ?_
  refine lv_imul hx hb dX1_find_7 ?_
  refine lv_iload_n hx hb dX1_find_8 rfl (lv_at hl 2 rfl) ?_
  refine lv_iadd hx hb dX1_find_9 ?_
  obtain ⟨h_10, hf⟩ := oi_e hf
  refine va_iald hx hb hK hP 17 0 (wC_17 _ _ _ _ _) rfl h_10 dX1_find_10 ?_
  exact rt_i (wd := wC ad cI cJ cZ) hx hb hr hlk ⟨Option.some.inj hf, rfl⟩ hP hS dX1_find_11
theorem hd_X1_find : yX1_find.cls = RX1 ∧ yX1_find.cls ≠ "java/lang/invoke/MethodHandle" ∧ yX1_find.cls ≠ "java/lang/invoke/VarHandle" ∧ (parseMethodDescriptor yX1_find.desc).map (fun d => d.parameters.length) = some 2 := by decide +kernel
set_option maxHeartbeats 4000000 in
set_option maxRecDepth 100000 in
theorem c_X1_find (l : Launch) (D : va_G) (ad : Nat → Nat) (cI cJ cZ : ClassId) (σ : SS) (v1 : Int32) (v2 : Int32) {res : Int32} (hf : p_X1_find_0 σ v1 v2 = some res) : Met l yX1_find wsX1_find ({ frames := 0, cells := 0, slots := 0, locals := 0 } : Room) (PW D (tyw cI cJ cZ) (wC ad cI cJ cZ σ) [.ref (ad 3), .int v1, .int v2]) (va_Qi (fun (r : Int32) (u : SS) => r = res ∧ u = σ) (fun u t => va_P D vwCl (wC ad cI cJ cZ u) t.heap) (aC ad)) 0 0 (aC ad) := by
  refine Met.ofW (cc := cX1_find) (maxL := 3) (ret := (some .int)) (by decide) rfl ?_
  intro p e s m args below meth c s₁ B hml hv
  obtain ⟨rfl, hP, hK, hD0⟩ := hv
  have hD : ∀ σ, va_D (aC ad) (wC ad cI cJ cZ σ) := fun σ => wd_D hD0 (wC_map _ _ _ _ _) (wC_map _ _ _ _ _)
  have hm : mx p s m _ meth c cX1_find 3 (some .int) wsX1_find RX1 := ⟨B.exec, B.bytes, B.returns, hml, findClass_of_methodNamed B.named, atoms_spec (ws := wsX1_find) B.pre, B.notSynchronized⟩
  have hl := lv_entry ([.ref (ad 3), .int v1, .int v2]) (n := 3) (Nat.le_of_ble_eq_true rfl)
  rw [lg_entry_eq]
  generalize (lg_sl ([.ref (ad 3), .int v1, .int v2]) ++ List.replicate (3 - (lg_sl ([.ref (ad 3), .int v1, .int v2])).length) Slot.unset).toArray = ls at hl ⊢
  exact w_X1_find_0 hm ⟨Nat.le_refl _, Nat.le_refl _⟩ hK hD σ v1 v2 hf _ _ _ hP va_S.rf hl
/-! CallGraphs$Choices.choose(III)I -/
theorem in_X1_choose_X1 : ∀ w ∈ u_ws RX1 TX1 4, w ∈ wsX1_choose := fun w h => List.mem_cons_of_mem _ (List.mem_append_left _ (List.mem_append_right _ h))
def p_X1_choose_64 (σ : SS) (t0 : Int32) : Option (Int32) := some t0
set_option maxHeartbeats 4000000 in
set_option maxRecDepth 100000 in
theorem w_X1_choose_64 {p : Program} {l : Launch} {e : Env} {R : Room} {s : State} {m : MethodId} {args : Array Value} {below : List Frame} {meth : Method} {c : Code} {D : va_G} {ad : Nat → Nat} {cI cJ cZ : ClassId} {res : Int32} (hm : mx p s m args meth c cX1_choose 6 (some .int) wsX1_choose RX1) (hR : 1 ≤ R.frames ∧ 21 ≤ R.locals) (hK : va_K D vwCl (tyw cI cJ cZ) s) (hD : ∀ σ, va_D (aC ad) (wC ad cI cJ cZ σ)) (σ : SS) (t0 : Int32) (hf : p_X1_choose_64 σ t0 = some res) (H : Heap) (locs : List Loc) (ls : Array Slot) (hP : va_P D vwCl (wC ad cI cJ cZ σ) H) (hS : va_S (aC ad) s.heap H locs) (hl : lv_has ls 6 []) : W p l e R s m args below meth c H locs 0 0 (MQ below (va_Qi (fun (r : Int32) (u : SS) => r = res ∧ u = σ) (fun u t => va_P D vwCl (wC ad cI cJ cZ u) t.heap) (aC ad)) args s 0 0 (aC ad)) (F0 m 64 ls [.int t0]) := by
  obtain ⟨hx, hb, hr, hml, hown, hts, hlk⟩ := id hm
  unfold p_X1_choose_64 at hf
  exact rt_i (wd := wC ad cI cJ cZ) hx hb hr hlk ⟨Option.some.inj hf, rfl⟩ hP hS dX1_choose_64
def p_X1_choose_0 (σ : SS) (v1 : Int32) (v2 : Int32) (v3 : Int32) : Option (Int32) := oi ((v2 * 10) + v3) 160 (if (σ.1 17 ((v2 * 10) + v3).toNatClampNeg) = (-1) then some (-2) else oc (p_X4_sortOf_0 σ (σ.1 17 ((v2 * 10) + v3).toNatClampNeg)) (fun r_28 => if r_28 = 2 then some (-3) else if r_28 = 3 then p_X1_choose_64 σ (σ.1 17 ((v2 * 10) + v3).toNatClampNeg) else oi ((v1 * 10) + v3) 160 (p_X1_choose_64 σ (σ.1 18 ((v1 * 10) + v3).toNatClampNeg))))
set_option maxHeartbeats 4000000 in
set_option maxRecDepth 100000 in
theorem w_X1_choose_0 {p : Program} {l : Launch} {e : Env} {R : Room} {s : State} {m : MethodId} {args : Array Value} {below : List Frame} {meth : Method} {c : Code} {D : va_G} {ad : Nat → Nat} {cI cJ cZ : ClassId} {res : Int32} (hm : mx p s m args meth c cX1_choose 6 (some .int) wsX1_choose RX1) (hR : 1 ≤ R.frames ∧ 21 ≤ R.locals) (hK : va_K D vwCl (tyw cI cJ cZ) s) (hD : ∀ σ, va_D (aC ad) (wC ad cI cJ cZ σ)) (σ : SS) (v1 : Int32) (v2 : Int32) (v3 : Int32) (hf : p_X1_choose_0 σ v1 v2 v3 = some res) (H : Heap) (locs : List Loc) (ls : Array Slot) (hP : va_P D vwCl (wC ad cI cJ cZ σ) H) (hS : va_S (aC ad) s.heap H locs) (hl : lv_has ls 6 [(0, .ref (ad 3)), (1, .int v1), (2, .int v2), (3, .int v3)]) : W p l e R s m args below meth c H locs 0 0 (MQ below (va_Qi (fun (r : Int32) (u : SS) => r = res ∧ u = σ) (fun u t => va_P D vwCl (wC ad cI cJ cZ u) t.heap) (aC ad)) args s 0 0 (aC ad)) (F0 m 0 ls []) := by
  obtain ⟨hx, hb, hr, hml, hown, hts, hlk⟩ := id hm
  unfold p_X1_choose_0 at hf
  refine lv_aload_n hx hb dX1_choose_0 rfl (lv_at hl 0 rfl) ?_
  refine va_get (D := D) (ci := 0) (v := .ref (ad 17)) (C := RX1) (T := TX1) (N := 4) hx hb hts in_X1_choose_X1 hown hK hP 3 (wC_3 _ _ _ _ _) rfl 2 (by decide) (hts (.fieldLink RX1 9 "CallGraphs$Choices" "finds" "[I") (List.mem_of_getElem? (i := 1) rfl)) (fun _ h9 => h9) (fC_3_2 _ _) dX1_choose_1 ?_
  refine lv_iload_n hx hb dX1_choose_4 rfl (lv_at hl 2 rfl) ?_
  refine lv_bipush (v := 10) hx hb dX1_choose_5 (by decide) ?_
  refine lv_imul hx hb dX1_choose_7 ?_
  refine lv_iload_n hx hb dX1_choose_8 rfl (lv_at hl 3 rfl) ?_
  refine lv_iadd hx hb dX1_choose_9 ?_
  obtain ⟨h_10, hf⟩ := oi_e hf
  refine va_iald hx hb hK hP 17 0 (wC_17 _ _ _ _ _) rfl h_10 dX1_choose_10 ?_
  refine lv_istore (lv' := [(4, .int (σ.1 17 ((v2 * 10) + v3).toNatClampNeg)), (0, .ref (ad 3)), (1, .int v1), (2, .int v2), (3, .int v3)]) hx hb dX1_choose_11 hl (by decide) rfl (fun ls hl => ?_)
  refine lv_iload hx hb dX1_choose_13 (lv_at hl 0 rfl) ?_
  refine lv_iconst (v := (-1)) hx hb dX1_choose_15 (by decide) ?_
  refine lv_icmp_ne (tgt := 22) hx hb dX1_choose_16 (by decide) (fun c_16 => ?_) (fun c_16 => ?_)
  · rw [if_neg c_16] at hf
    refine lv_aload_n hx hb dX1_choose_22 rfl (lv_at hl 1 rfl) ?_
    refine va_get (D := D) (ci := 0) (v := .ref (ad 2)) (C := RX1) (T := TX1) (N := 4) hx hb hts in_X1_choose_X1 hown hK hP 3 (wC_3 _ _ _ _ _) rfl 1 (by decide) (hts (.fieldLink RX1 22 "CallGraphs$Choices" "members" "LCallGraphs$Members;") (List.mem_of_getElem? (i := 2) rfl)) (fun _ h9 => h9) (fC_3_1 _ _) dX1_choose_23 ?_
    refine lv_iload hx hb dX1_choose_26 (lv_at hl 0 rfl) ?_
    obtain ⟨r_28, hg_28, hf⟩ := oc_e hf
    refine mV_ri (wd := wC ad cI cJ cZ) (σ := σ) (As := [.int (σ.1 17 ((v2 * 10) + v3).toNatClampNeg)]) (rest := []) ⟨hx, hb, hml, hown, hts⟩ hK hP hD hS (c_X4_sortOf l D ad cI cJ cZ σ (σ.1 17 ((v2 * 10) + v3).toNatClampNeg) hg_28) (cwV 1 hts gX1_choose_X4_sortOf rfl rfl rfl hd_X4_sortOf ⟨Nat.le_trans (Nat.le_of_ble_eq_true rfl) hR.1, Nat.le_trans (Nat.le_of_ble_eq_true rfl) hR.2⟩) rfl (wC_2 _ _ _ _ _) rfl hl.1 rfl (Nat.le_of_ble_eq_true rfl) dX1_choose_28 (fun H locs hP hS => ?_)
    refine lv_istore (lv' := [(5, .int r_28), (4, .int (σ.1 17 ((v2 * 10) + v3).toNatClampNeg)), (0, .ref (ad 3)), (1, .int v1), (2, .int v2), (3, .int v3)]) hx hb dX1_choose_31 hl (by decide) rfl (fun ls hl => ?_)
    refine lv_iload hx hb dX1_choose_33 (lv_at hl 0 rfl) ?_
    refine lv_iconst (v := 2) hx hb dX1_choose_35 (by decide) ?_
    refine lv_icmp_ne (tgt := 42) hx hb dX1_choose_36 (by decide) (fun c_36 => ?_) (fun c_36 => ?_)
    · rw [if_neg c_36] at hf
      refine lv_iload hx hb dX1_choose_42 (lv_at hl 0 rfl) ?_
      refine lv_iconst (v := 3) hx hb dX1_choose_44 (by decide) ?_
      refine lv_icmp_ne (tgt := 53) hx hb dX1_choose_45 (by decide) (fun c_45 => ?_) (fun c_45 => ?_)
      · rw [if_neg c_45] at hf
        refine lv_aload_n hx hb dX1_choose_53 rfl (lv_at hl 2 rfl) ?_
        refine va_get (D := D) (ci := 0) (v := .ref (ad 18)) (C := RX1) (T := TX1) (N := 4) hx hb hts in_X1_choose_X1 hown hK hP 3 (wC_3 _ _ _ _ _) rfl 3 (by decide) (hts (.fieldLink RX1 15 "CallGraphs$Choices" "picks" "[I") (List.mem_of_getElem? (i := 3) rfl)) (fun _ h9 => h9) (fC_3_3 _ _) dX1_choose_54 ?_
        refine lv_iload_n hx hb dX1_choose_57 rfl (lv_at hl 3 rfl) ?_
        refine lv_bipush (v := 10) hx hb dX1_choose_58 (by decide) ?_
        refine lv_imul hx hb dX1_choose_60 ?_
        refine lv_iload_n hx hb dX1_choose_61 rfl (lv_at hl 5 rfl) ?_
        refine lv_iadd hx hb dX1_choose_62 ?_
        obtain ⟨h_63, hf⟩ := oi_e hf
        refine va_iald hx hb hK hP 18 0 (wC_18 _ _ _ _ _) rfl h_63 dX1_choose_63 ?_
        exact w_X1_choose_64 hm hR hK hD σ (σ.1 18 ((v1 * 10) + v3).toNatClampNeg) hf _ _ _ hP hS (lv_sub hl [] rfl)
      · rw [if_pos c_45] at hf
        refine lv_iload hx hb dX1_choose_48 (lv_at hl 1 rfl) ?_
        refine lv_goto (tgt := 64) hx hb dX1_choose_50 (by decide) ?_
        exact w_X1_choose_64 hm hR hK hD σ (σ.1 17 ((v2 * 10) + v3).toNatClampNeg) hf _ _ _ hP hS (lv_sub hl [] rfl)
    · rw [if_pos c_36] at hf
      refine lv_bipush (v := (-3)) hx hb dX1_choose_39 (by decide) ?_
      exact rt_i (wd := wC ad cI cJ cZ) hx hb hr hlk ⟨Option.some.inj hf, rfl⟩ hP hS dX1_choose_41
  · rw [if_pos c_16] at hf
    refine lv_bipush (v := (-2)) hx hb dX1_choose_19 (by decide) ?_
    exact rt_i (wd := wC ad cI cJ cZ) hx hb hr hlk ⟨Option.some.inj hf, rfl⟩ hP hS dX1_choose_21
theorem hd_X1_choose : yX1_choose.cls = RX1 ∧ yX1_choose.cls ≠ "java/lang/invoke/MethodHandle" ∧ yX1_choose.cls ≠ "java/lang/invoke/VarHandle" ∧ (parseMethodDescriptor yX1_choose.desc).map (fun d => d.parameters.length) = some 3 := by decide +kernel
set_option maxHeartbeats 4000000 in
set_option maxRecDepth 100000 in
theorem c_X1_choose (l : Launch) (D : va_G) (ad : Nat → Nat) (cI cJ cZ : ClassId) (σ : SS) (v1 : Int32) (v2 : Int32) (v3 : Int32) {res : Int32} (hf : p_X1_choose_0 σ v1 v2 v3 = some res) : Met l yX1_choose wsX1_choose ({ frames := 1, cells := 0, slots := 0, locals := 21 } : Room) (PW D (tyw cI cJ cZ) (wC ad cI cJ cZ σ) [.ref (ad 3), .int v1, .int v2, .int v3]) (va_Qi (fun (r : Int32) (u : SS) => r = res ∧ u = σ) (fun u t => va_P D vwCl (wC ad cI cJ cZ u) t.heap) (aC ad)) 0 0 (aC ad) := by
  refine Met.ofW (cc := cX1_choose) (maxL := 6) (ret := (some .int)) (by decide) rfl ?_
  intro p e s m args below meth c s₁ B hml hv
  obtain ⟨rfl, hP, hK, hD0⟩ := hv
  have hD : ∀ σ, va_D (aC ad) (wC ad cI cJ cZ σ) := fun σ => wd_D hD0 (wC_map _ _ _ _ _) (wC_map _ _ _ _ _)
  have hm : mx p s m _ meth c cX1_choose 6 (some .int) wsX1_choose RX1 := ⟨B.exec, B.bytes, B.returns, hml, findClass_of_methodNamed B.named, atoms_spec (ws := wsX1_choose) B.pre, B.notSynchronized⟩
  have hl := lv_entry ([.ref (ad 3), .int v1, .int v2, .int v3]) (n := 6) (Nat.le_of_ble_eq_true rfl)
  rw [lg_entry_eq]
  generalize (lg_sl ([.ref (ad 3), .int v1, .int v2, .int v3]) ++ List.replicate (6 - (lg_sl ([.ref (ad 3), .int v1, .int v2, .int v3])).length) Slot.unset).toArray = ls at hl ⊢
  exact w_X1_choose_0 hm ⟨Nat.le_refl _, Nat.le_refl _⟩ hK hD σ v1 v2 v3 hf _ _ _ hP va_S.rf hl
/-! CallGraphs$Choices.chooseStatic(II)I -/
theorem in_X1_chooseStatic_X1 : ∀ w ∈ u_ws RX1 TX1 4, w ∈ wsX1_chooseStatic := fun w h => List.mem_cons_of_mem _ (List.mem_append_left _ (List.mem_append_right _ h))
def p_X1_chooseStatic_38 (σ : SS) (t0 : Int32) : Option (Int32) := some t0
set_option maxHeartbeats 4000000 in
set_option maxRecDepth 100000 in
theorem w_X1_chooseStatic_38 {p : Program} {l : Launch} {e : Env} {R : Room} {s : State} {m : MethodId} {args : Array Value} {below : List Frame} {meth : Method} {c : Code} {D : va_G} {ad : Nat → Nat} {cI cJ cZ : ClassId} {res : Int32} (hm : mx p s m args meth c cX1_chooseStatic 4 (some .int) wsX1_chooseStatic RX1) (hR : 1 ≤ R.frames ∧ 21 ≤ R.locals) (hK : va_K D vwCl (tyw cI cJ cZ) s) (hD : ∀ σ, va_D (aC ad) (wC ad cI cJ cZ σ)) (σ : SS) (t0 : Int32) (hf : p_X1_chooseStatic_38 σ t0 = some res) (H : Heap) (locs : List Loc) (ls : Array Slot) (hP : va_P D vwCl (wC ad cI cJ cZ σ) H) (hS : va_S (aC ad) s.heap H locs) (hl : lv_has ls 4 []) : W p l e R s m args below meth c H locs 0 0 (MQ below (va_Qi (fun (r : Int32) (u : SS) => r = res ∧ u = σ) (fun u t => va_P D vwCl (wC ad cI cJ cZ u) t.heap) (aC ad)) args s 0 0 (aC ad)) (F0 m 38 ls [.int t0]) := by
  obtain ⟨hx, hb, hr, hml, hown, hts, hlk⟩ := id hm
  unfold p_X1_chooseStatic_38 at hf
  exact rt_i (wd := wC ad cI cJ cZ) hx hb hr hlk ⟨Option.some.inj hf, rfl⟩ hP hS dX1_chooseStatic_38
def p_X1_chooseStatic_0 (σ : SS) (v1 : Int32) (v2 : Int32) : Option (Int32) := oi ((v1 * 10) + v2) 160 (if (σ.1 17 ((v1 * 10) + v2).toNatClampNeg) = (-1) then some (-2) else oc (p_X4_sortOf_0 σ (σ.1 17 ((v1 * 10) + v2).toNatClampNeg)) (fun r_25 => if r_25 = 2 then p_X1_chooseStatic_38 σ (σ.1 17 ((v1 * 10) + v2).toNatClampNeg) else p_X1_chooseStatic_38 σ (-3)))
set_option maxHeartbeats 4000000 in
set_option maxRecDepth 100000 in
theorem w_X1_chooseStatic_0 {p : Program} {l : Launch} {e : Env} {R : Room} {s : State} {m : MethodId} {args : Array Value} {below : List Frame} {meth : Method} {c : Code} {D : va_G} {ad : Nat → Nat} {cI cJ cZ : ClassId} {res : Int32} (hm : mx p s m args meth c cX1_chooseStatic 4 (some .int) wsX1_chooseStatic RX1) (hR : 1 ≤ R.frames ∧ 21 ≤ R.locals) (hK : va_K D vwCl (tyw cI cJ cZ) s) (hD : ∀ σ, va_D (aC ad) (wC ad cI cJ cZ σ)) (σ : SS) (v1 : Int32) (v2 : Int32) (hf : p_X1_chooseStatic_0 σ v1 v2 = some res) (H : Heap) (locs : List Loc) (ls : Array Slot) (hP : va_P D vwCl (wC ad cI cJ cZ σ) H) (hS : va_S (aC ad) s.heap H locs) (hl : lv_has ls 4 [(0, .ref (ad 3)), (1, .int v1), (2, .int v2)]) : W p l e R s m args below meth c H locs 0 0 (MQ below (va_Qi (fun (r : Int32) (u : SS) => r = res ∧ u = σ) (fun u t => va_P D vwCl (wC ad cI cJ cZ u) t.heap) (aC ad)) args s 0 0 (aC ad)) (F0 m 0 ls []) := by
  obtain ⟨hx, hb, hr, hml, hown, hts, hlk⟩ := id hm
  unfold p_X1_chooseStatic_0 at hf
  refine lv_aload_n hx hb dX1_chooseStatic_0 rfl (lv_at hl 0 rfl) ?_
  refine va_get (D := D) (ci := 0) (v := .ref (ad 17)) (C := RX1) (T := TX1) (N := 4) hx hb hts in_X1_chooseStatic_X1 hown hK hP 3 (wC_3 _ _ _ _ _) rfl 2 (by decide) (hts (.fieldLink RX1 9 "CallGraphs$Choices" "finds" "[I") (List.mem_of_getElem? (i := 1) rfl)) (fun _ h9 => h9) (fC_3_2 _ _) dX1_chooseStatic_1 ?_
  refine lv_iload_n hx hb dX1_chooseStatic_4 rfl (lv_at hl 1 rfl) ?_
  refine lv_bipush (v := 10) hx hb dX1_chooseStatic_5 (by decide) ?_
  refine lv_imul hx hb dX1_chooseStatic_7 ?_
  refine lv_iload_n hx hb dX1_chooseStatic_8 rfl (lv_at hl 2 rfl) ?_
  refine lv_iadd hx hb dX1_chooseStatic_9 ?_
  obtain ⟨h_10, hf⟩ := oi_e hf
  refine va_iald hx hb hK hP 17 0 (wC_17 _ _ _ _ _) rfl h_10 dX1_chooseStatic_10 ?_
  refine lv_istore_n (lv' := [(3, .int (σ.1 17 ((v1 * 10) + v2).toNatClampNeg)), (0, .ref (ad 3)), (1, .int v1), (2, .int v2)]) hx hb dX1_chooseStatic_11 rfl hl (by decide) rfl (fun ls hl => ?_)
  refine lv_iload_n hx hb dX1_chooseStatic_12 rfl (lv_at hl 0 rfl) ?_
  refine lv_iconst (v := (-1)) hx hb dX1_chooseStatic_13 (by decide) ?_
  refine lv_icmp_ne (tgt := 20) hx hb dX1_chooseStatic_14 (by decide) (fun c_14 => ?_) (fun c_14 => ?_)
  · rw [if_neg c_14] at hf
    refine lv_aload_n hx hb dX1_chooseStatic_20 rfl (lv_at hl 1 rfl) ?_
    refine va_get (D := D) (ci := 0) (v := .ref (ad 2)) (C := RX1) (T := TX1) (N := 4) hx hb hts in_X1_chooseStatic_X1 hown hK hP 3 (wC_3 _ _ _ _ _) rfl 1 (by decide) (hts (.fieldLink RX1 22 "CallGraphs$Choices" "members" "LCallGraphs$Members;") (List.mem_of_getElem? (i := 2) rfl)) (fun _ h9 => h9) (fC_3_1 _ _) dX1_chooseStatic_21 ?_
    refine lv_iload_n hx hb dX1_chooseStatic_24 rfl (lv_at hl 0 rfl) ?_
    obtain ⟨r_25, hg_25, hf⟩ := oc_e hf
    refine mV_ri (wd := wC ad cI cJ cZ) (σ := σ) (As := [.int (σ.1 17 ((v1 * 10) + v2).toNatClampNeg)]) (rest := []) ⟨hx, hb, hml, hown, hts⟩ hK hP hD hS (c_X4_sortOf l D ad cI cJ cZ σ (σ.1 17 ((v1 * 10) + v2).toNatClampNeg) hg_25) (cwV 1 hts gX1_chooseStatic_X4_sortOf rfl rfl rfl hd_X4_sortOf ⟨Nat.le_trans (Nat.le_of_ble_eq_true rfl) hR.1, Nat.le_trans (Nat.le_of_ble_eq_true rfl) hR.2⟩) rfl (wC_2 _ _ _ _ _) rfl hl.1 rfl (Nat.le_of_ble_eq_true rfl) dX1_chooseStatic_25 (fun H locs hP hS => ?_)
    refine lv_iconst (v := 2) hx hb dX1_chooseStatic_28 (by decide) ?_
    refine lv_icmp_ne (tgt := 36) hx hb dX1_chooseStatic_29 (by decide) (fun c_29 => ?_) (fun c_29 => ?_)
    · rw [if_neg c_29] at hf
      refine lv_bipush (v := (-3)) hx hb dX1_chooseStatic_36 (by decide) ?_
      exact w_X1_chooseStatic_38 hm hR hK hD σ (-3) hf _ _ _ hP hS (lv_sub hl [] rfl)
    · rw [if_pos c_29] at hf
      refine lv_iload_n hx hb dX1_chooseStatic_32 rfl (lv_at hl 0 rfl) ?_
      refine lv_goto (tgt := 38) hx hb dX1_chooseStatic_33 (by decide) ?_
      exact w_X1_chooseStatic_38 hm hR hK hD σ (σ.1 17 ((v1 * 10) + v2).toNatClampNeg) hf _ _ _ hP hS (lv_sub hl [] rfl)
  · rw [if_pos c_14] at hf
    refine lv_bipush (v := (-2)) hx hb dX1_chooseStatic_17 (by decide) ?_
    exact rt_i (wd := wC ad cI cJ cZ) hx hb hr hlk ⟨Option.some.inj hf, rfl⟩ hP hS dX1_chooseStatic_19
theorem hd_X1_chooseStatic : yX1_chooseStatic.cls = RX1 ∧ yX1_chooseStatic.cls ≠ "java/lang/invoke/MethodHandle" ∧ yX1_chooseStatic.cls ≠ "java/lang/invoke/VarHandle" ∧ (parseMethodDescriptor yX1_chooseStatic.desc).map (fun d => d.parameters.length) = some 2 := by decide +kernel
set_option maxHeartbeats 4000000 in
set_option maxRecDepth 100000 in
theorem c_X1_chooseStatic (l : Launch) (D : va_G) (ad : Nat → Nat) (cI cJ cZ : ClassId) (σ : SS) (v1 : Int32) (v2 : Int32) {res : Int32} (hf : p_X1_chooseStatic_0 σ v1 v2 = some res) : Met l yX1_chooseStatic wsX1_chooseStatic ({ frames := 1, cells := 0, slots := 0, locals := 21 } : Room) (PW D (tyw cI cJ cZ) (wC ad cI cJ cZ σ) [.ref (ad 3), .int v1, .int v2]) (va_Qi (fun (r : Int32) (u : SS) => r = res ∧ u = σ) (fun u t => va_P D vwCl (wC ad cI cJ cZ u) t.heap) (aC ad)) 0 0 (aC ad) := by
  refine Met.ofW (cc := cX1_chooseStatic) (maxL := 4) (ret := (some .int)) (by decide) rfl ?_
  intro p e s m args below meth c s₁ B hml hv
  obtain ⟨rfl, hP, hK, hD0⟩ := hv
  have hD : ∀ σ, va_D (aC ad) (wC ad cI cJ cZ σ) := fun σ => wd_D hD0 (wC_map _ _ _ _ _) (wC_map _ _ _ _ _)
  have hm : mx p s m _ meth c cX1_chooseStatic 4 (some .int) wsX1_chooseStatic RX1 := ⟨B.exec, B.bytes, B.returns, hml, findClass_of_methodNamed B.named, atoms_spec (ws := wsX1_chooseStatic) B.pre, B.notSynchronized⟩
  have hl := lv_entry ([.ref (ad 3), .int v1, .int v2]) (n := 4) (Nat.le_of_ble_eq_true rfl)
  rw [lg_entry_eq]
  generalize (lg_sl ([.ref (ad 3), .int v1, .int v2]) ++ List.replicate (4 - (lg_sl ([.ref (ad 3), .int v1, .int v2])).length) Slot.unset).toArray = ls at hl ⊢
  exact w_X1_chooseStatic_0 hm ⟨Nat.le_refl _, Nat.le_refl _⟩ hK hD σ v1 v2 hf _ _ _ hP va_S.rf hl
