/-! java/lang/Long.bitCount(J)I -/

def p_J13_bitCount_95d88_0 (v0 : Int64) : Option (Int32) := some ((((((((((v0 - ((jush v0 1) &&& (6148914691236517205))) &&& (3689348814741910323)) + ((jush (v0 - ((jush v0 1) &&& (6148914691236517205))) 2) &&& (3689348814741910323))) + (jush (((v0 - ((jush v0 1) &&& (6148914691236517205))) &&& (3689348814741910323)) + ((jush (v0 - ((jush v0 1) &&& (6148914691236517205))) 2) &&& (3689348814741910323))) 4)) &&& (1085102592571150095)) + (jush (((((v0 - ((jush v0 1) &&& (6148914691236517205))) &&& (3689348814741910323)) + ((jush (v0 - ((jush v0 1) &&& (6148914691236517205))) 2) &&& (3689348814741910323))) + (jush (((v0 - ((jush v0 1) &&& (6148914691236517205))) &&& (3689348814741910323)) + ((jush (v0 - ((jush v0 1) &&& (6148914691236517205))) 2) &&& (3689348814741910323))) 4)) &&& (1085102592571150095)) 8)) + (jush ((((((v0 - ((jush v0 1) &&& (6148914691236517205))) &&& (3689348814741910323)) + ((jush (v0 - ((jush v0 1) &&& (6148914691236517205))) 2) &&& (3689348814741910323))) + (jush (((v0 - ((jush v0 1) &&& (6148914691236517205))) &&& (3689348814741910323)) + ((jush (v0 - ((jush v0 1) &&& (6148914691236517205))) 2) &&& (3689348814741910323))) 4)) &&& (1085102592571150095)) + (jush (((((v0 - ((jush v0 1) &&& (6148914691236517205))) &&& (3689348814741910323)) + ((jush (v0 - ((jush v0 1) &&& (6148914691236517205))) 2) &&& (3689348814741910323))) + (jush (((v0 - ((jush v0 1) &&& (6148914691236517205))) &&& (3689348814741910323)) + ((jush (v0 - ((jush v0 1) &&& (6148914691236517205))) 2) &&& (3689348814741910323))) 4)) &&& (1085102592571150095)) 8)) 16)) + (jush (((((((v0 - ((jush v0 1) &&& (6148914691236517205))) &&& (3689348814741910323)) + ((jush (v0 - ((jush v0 1) &&& (6148914691236517205))) 2) &&& (3689348814741910323))) + (jush (((v0 - ((jush v0 1) &&& (6148914691236517205))) &&& (3689348814741910323)) + ((jush (v0 - ((jush v0 1) &&& (6148914691236517205))) 2) &&& (3689348814741910323))) 4)) &&& (1085102592571150095)) + (jush (((((v0 - ((jush v0 1) &&& (6148914691236517205))) &&& (3689348814741910323)) + ((jush (v0 - ((jush v0 1) &&& (6148914691236517205))) 2) &&& (3689348814741910323))) + (jush (((v0 - ((jush v0 1) &&& (6148914691236517205))) &&& (3689348814741910323)) + ((jush (v0 - ((jush v0 1) &&& (6148914691236517205))) 2) &&& (3689348814741910323))) 4)) &&& (1085102592571150095)) 8)) + (jush ((((((v0 - ((jush v0 1) &&& (6148914691236517205))) &&& (3689348814741910323)) + ((jush (v0 - ((jush v0 1) &&& (6148914691236517205))) 2) &&& (3689348814741910323))) + (jush (((v0 - ((jush v0 1) &&& (6148914691236517205))) &&& (3689348814741910323)) + ((jush (v0 - ((jush v0 1) &&& (6148914691236517205))) 2) &&& (3689348814741910323))) 4)) &&& (1085102592571150095)) + (jush (((((v0 - ((jush v0 1) &&& (6148914691236517205))) &&& (3689348814741910323)) + ((jush (v0 - ((jush v0 1) &&& (6148914691236517205))) 2) &&& (3689348814741910323))) + (jush (((v0 - ((jush v0 1) &&& (6148914691236517205))) &&& (3689348814741910323)) + ((jush (v0 - ((jush v0 1) &&& (6148914691236517205))) 2) &&& (3689348814741910323))) 4)) &&& (1085102592571150095)) 8)) 16)) 32)).toInt32) &&& 127)
set_option maxHeartbeats 4000000 in
set_option maxRecDepth 100000 in
theorem w_J13_bitCount_95d88_0 {p : Program} {l : Launch} {e : Env} {R : Room} {s : State} {m : MethodId} {args : Array Value} {below : List Frame} {meth : Method} {c : Code} {res : Int32} (hm : mx p s m args meth c cJ13_bitCount_95d88 2 (some .int) wsJ13_bitCount_95d88 RJ13) (hR : 0 ≤ R.frames ∧ 0 ≤ R.locals) (v0 : Int64) (hf : p_J13_bitCount_95d88_0 v0 = some res) (H : Heap) (locs : List Loc) (ls : Array Slot) (hS : va_S (fun _ => False) s.heap H locs) (hl : lv_has ls 2 [(0, .long v0)]) : W p l e R s m args below meth c H locs 0 0 (MQ below (va_Qi (fun (r : Int32) (_ : Unit) => r = res) (fun _ _ => True) (fun _ => False)) args s 0 0 (fun _ => False)) (F0 m 0 ls []) := by
  obtain ⟨hx, hb, hr, hml, hown, hts, hlk⟩ := id hm
  unfold p_J13_bitCount_95d88_0 at hf
  refine lv_lload_n hx hb dJ13_bitCount_95d88_0 rfl (lv_at hl 0 rfl) ?_
  refine lv_lload_n hx hb dJ13_bitCount_95d88_1 rfl (lv_at hl 0 rfl) ?_
  refine lv_iconst (v := 1) hx hb dJ13_bitCount_95d88_2 (by decide) ?_
  refine lv_lushr (v := (jush v0 1)) hx hb dJ13_bitCount_95d88_3 rfl ?_
  refine lv_ldc2 hx hb hown (hts (.constantLong RJ13 314 (6148914691236517205)) (List.mem_of_getElem? (i := 1) rfl)) dJ13_bitCount_95d88_4 ?_
  refine lv_land hx hb dJ13_bitCount_95d88_7 ?_
  refine lv_lsub hx hb dJ13_bitCount_95d88_8 ?_
  refine lv_lstore_n (lv' := [(0, .long (v0 - ((jush v0 1) &&& (6148914691236517205))))]) hx hb dJ13_bitCount_95d88_9 rfl hl (by decide) rfl (fun ls hl => ?_)
  refine lv_lload_n hx hb dJ13_bitCount_95d88_10 rfl (lv_at hl 0 rfl) ?_
  refine lv_ldc2 hx hb hown (hts (.constantLong RJ13 316 (3689348814741910323)) (List.mem_of_getElem? (i := 2) rfl)) dJ13_bitCount_95d88_11 ?_
  refine lv_land hx hb dJ13_bitCount_95d88_14 ?_
  refine lv_lload_n hx hb dJ13_bitCount_95d88_15 rfl (lv_at hl 0 rfl) ?_
  refine lv_iconst (v := 2) hx hb dJ13_bitCount_95d88_16 (by decide) ?_
  refine lv_lushr (v := (jush (v0 - ((jush v0 1) &&& (6148914691236517205))) 2)) hx hb dJ13_bitCount_95d88_17 rfl ?_
  refine lv_ldc2 hx hb hown (hts (.constantLong RJ13 316 (3689348814741910323)) (List.mem_of_getElem? (i := 2) rfl)) dJ13_bitCount_95d88_18 ?_
  refine lv_land hx hb dJ13_bitCount_95d88_21 ?_
  refine lv_ladd hx hb dJ13_bitCount_95d88_22 ?_
  refine lv_lstore_n (lv' := [(0, .long (((v0 - ((jush v0 1) &&& (6148914691236517205))) &&& (3689348814741910323)) + ((jush (v0 - ((jush v0 1) &&& (6148914691236517205))) 2) &&& (3689348814741910323))))]) hx hb dJ13_bitCount_95d88_23 rfl hl (by decide) rfl (fun ls hl => ?_)
  refine lv_lload_n hx hb dJ13_bitCount_95d88_24 rfl (lv_at hl 0 rfl) ?_
  refine lv_lload_n hx hb dJ13_bitCount_95d88_25 rfl (lv_at hl 0 rfl) ?_
  refine lv_iconst (v := 4) hx hb dJ13_bitCount_95d88_26 (by decide) ?_
  refine lv_lushr (v := (jush (((v0 - ((jush v0 1) &&& (6148914691236517205))) &&& (3689348814741910323)) + ((jush (v0 - ((jush v0 1) &&& (6148914691236517205))) 2) &&& (3689348814741910323))) 4)) hx hb dJ13_bitCount_95d88_27 rfl ?_
  refine lv_ladd hx hb dJ13_bitCount_95d88_28 ?_
  refine lv_ldc2 hx hb hown (hts (.constantLong RJ13 318 (1085102592571150095)) (List.mem_of_getElem? (i := 3) rfl)) dJ13_bitCount_95d88_29 ?_
  refine lv_land hx hb dJ13_bitCount_95d88_32 ?_
  refine lv_lstore_n (lv' := [(0, .long (((((v0 - ((jush v0 1) &&& (6148914691236517205))) &&& (3689348814741910323)) + ((jush (v0 - ((jush v0 1) &&& (6148914691236517205))) 2) &&& (3689348814741910323))) + (jush (((v0 - ((jush v0 1) &&& (6148914691236517205))) &&& (3689348814741910323)) + ((jush (v0 - ((jush v0 1) &&& (6148914691236517205))) 2) &&& (3689348814741910323))) 4)) &&& (1085102592571150095)))]) hx hb dJ13_bitCount_95d88_33 rfl hl (by decide) rfl (fun ls hl => ?_)
  refine lv_lload_n hx hb dJ13_bitCount_95d88_34 rfl (lv_at hl 0 rfl) ?_
  refine lv_lload_n hx hb dJ13_bitCount_95d88_35 rfl (lv_at hl 0 rfl) ?_
  refine lv_bipush (v := 8) hx hb dJ13_bitCount_95d88_36 (by decide) ?_
  refine lv_lushr (v := (jush (((((v0 - ((jush v0 1) &&& (6148914691236517205))) &&& (3689348814741910323)) + ((jush (v0 - ((jush v0 1) &&& (6148914691236517205))) 2) &&& (3689348814741910323))) + (jush (((v0 - ((jush v0 1) &&& (6148914691236517205))) &&& (3689348814741910323)) + ((jush (v0 - ((jush v0 1) &&& (6148914691236517205))) 2) &&& (3689348814741910323))) 4)) &&& (1085102592571150095)) 8)) hx hb dJ13_bitCount_95d88_38 rfl ?_
  refine lv_ladd hx hb dJ13_bitCount_95d88_39 ?_
  refine lv_lstore_n (lv' := [(0, .long ((((((v0 - ((jush v0 1) &&& (6148914691236517205))) &&& (3689348814741910323)) + ((jush (v0 - ((jush v0 1) &&& (6148914691236517205))) 2) &&& (3689348814741910323))) + (jush (((v0 - ((jush v0 1) &&& (6148914691236517205))) &&& (3689348814741910323)) + ((jush (v0 - ((jush v0 1) &&& (6148914691236517205))) 2) &&& (3689348814741910323))) 4)) &&& (1085102592571150095)) + (jush (((((v0 - ((jush v0 1) &&& (6148914691236517205))) &&& (3689348814741910323)) + ((jush (v0 - ((jush v0 1) &&& (6148914691236517205))) 2) &&& (3689348814741910323))) + (jush (((v0 - ((jush v0 1) &&& (6148914691236517205))) &&& (3689348814741910323)) + ((jush (v0 - ((jush v0 1) &&& (6148914691236517205))) 2) &&& (3689348814741910323))) 4)) &&& (1085102592571150095)) 8)))]) hx hb dJ13_bitCount_95d88_40 rfl hl (by decide) rfl (fun ls hl => ?_)
  refine lv_lload_n hx hb dJ13_bitCount_95d88_41 rfl (lv_at hl 0 rfl) ?_
  refine lv_lload_n hx hb dJ13_bitCount_95d88_42 rfl (lv_at hl 0 rfl) ?_
  refine lv_bipush (v := 16) hx hb dJ13_bitCount_95d88_43 (by decide) ?_
  refine lv_lushr (v := (jush ((((((v0 - ((jush v0 1) &&& (6148914691236517205))) &&& (3689348814741910323)) + ((jush (v0 - ((jush v0 1) &&& (6148914691236517205))) 2) &&& (3689348814741910323))) + (jush (((v0 - ((jush v0 1) &&& (6148914691236517205))) &&& (3689348814741910323)) + ((jush (v0 - ((jush v0 1) &&& (6148914691236517205))) 2) &&& (3689348814741910323))) 4)) &&& (1085102592571150095)) + (jush (((((v0 - ((jush v0 1) &&& (6148914691236517205))) &&& (3689348814741910323)) + ((jush (v0 - ((jush v0 1) &&& (6148914691236517205))) 2) &&& (3689348814741910323))) + (jush (((v0 - ((jush v0 1) &&& (6148914691236517205))) &&& (3689348814741910323)) + ((jush (v0 - ((jush v0 1) &&& (6148914691236517205))) 2) &&& (3689348814741910323))) 4)) &&& (1085102592571150095)) 8)) 16)) hx hb dJ13_bitCount_95d88_45 rfl ?_
  refine lv_ladd hx hb dJ13_bitCount_95d88_46 ?_
  refine lv_lstore_n (lv' := [(0, .long (((((((v0 - ((jush v0 1) &&& (6148914691236517205))) &&& (3689348814741910323)) + ((jush (v0 - ((jush v0 1) &&& (6148914691236517205))) 2) &&& (3689348814741910323))) + (jush (((v0 - ((jush v0 1) &&& (6148914691236517205))) &&& (3689348814741910323)) + ((jush (v0 - ((jush v0 1) &&& (6148914691236517205))) 2) &&& (3689348814741910323))) 4)) &&& (1085102592571150095)) + (jush (((((v0 - ((jush v0 1) &&& (6148914691236517205))) &&& (3689348814741910323)) + ((jush (v0 - ((jush v0 1) &&& (6148914691236517205))) 2) &&& (3689348814741910323))) + (jush (((v0 - ((jush v0 1) &&& (6148914691236517205))) &&& (3689348814741910323)) + ((jush (v0 - ((jush v0 1) &&& (6148914691236517205))) 2) &&& (3689348814741910323))) 4)) &&& (1085102592571150095)) 8)) + (jush ((((((v0 - ((jush v0 1) &&& (6148914691236517205))) &&& (3689348814741910323)) + ((jush (v0 - ((jush v0 1) &&& (6148914691236517205))) 2) &&& (3689348814741910323))) + (jush (((v0 - ((jush v0 1) &&& (6148914691236517205))) &&& (3689348814741910323)) + ((jush (v0 - ((jush v0 1) &&& (6148914691236517205))) 2) &&& (3689348814741910323))) 4)) &&& (1085102592571150095)) + (jush (((((v0 - ((jush v0 1) &&& (6148914691236517205))) &&& (3689348814741910323)) + ((jush (v0 - ((jush v0 1) &&& (6148914691236517205))) 2) &&& (3689348814741910323))) + (jush (((v0 - ((jush v0 1) &&& (6148914691236517205))) &&& (3689348814741910323)) + ((jush (v0 - ((jush v0 1) &&& (6148914691236517205))) 2) &&& (3689348814741910323))) 4)) &&& (1085102592571150095)) 8)) 16)))]) hx hb dJ13_bitCount_95d88_47 rfl hl (by decide) rfl (fun ls hl => ?_)
  refine lv_lload_n hx hb dJ13_bitCount_95d88_48 rfl (lv_at hl 0 rfl) ?_
  refine lv_lload_n hx hb dJ13_bitCount_95d88_49 rfl (lv_at hl 0 rfl) ?_
  refine lv_bipush (v := 32) hx hb dJ13_bitCount_95d88_50 (by decide) ?_
  refine lv_lushr (v := (jush (((((((v0 - ((jush v0 1) &&& (6148914691236517205))) &&& (3689348814741910323)) + ((jush (v0 - ((jush v0 1) &&& (6148914691236517205))) 2) &&& (3689348814741910323))) + (jush (((v0 - ((jush v0 1) &&& (6148914691236517205))) &&& (3689348814741910323)) + ((jush (v0 - ((jush v0 1) &&& (6148914691236517205))) 2) &&& (3689348814741910323))) 4)) &&& (1085102592571150095)) + (jush (((((v0 - ((jush v0 1) &&& (6148914691236517205))) &&& (3689348814741910323)) + ((jush (v0 - ((jush v0 1) &&& (6148914691236517205))) 2) &&& (3689348814741910323))) + (jush (((v0 - ((jush v0 1) &&& (6148914691236517205))) &&& (3689348814741910323)) + ((jush (v0 - ((jush v0 1) &&& (6148914691236517205))) 2) &&& (3689348814741910323))) 4)) &&& (1085102592571150095)) 8)) + (jush ((((((v0 - ((jush v0 1) &&& (6148914691236517205))) &&& (3689348814741910323)) + ((jush (v0 - ((jush v0 1) &&& (6148914691236517205))) 2) &&& (3689348814741910323))) + (jush (((v0 - ((jush v0 1) &&& (6148914691236517205))) &&& (3689348814741910323)) + ((jush (v0 - ((jush v0 1) &&& (6148914691236517205))) 2) &&& (3689348814741910323))) 4)) &&& (1085102592571150095)) + (jush (((((v0 - ((jush v0 1) &&& (6148914691236517205))) &&& (3689348814741910323)) + ((jush (v0 - ((jush v0 1) &&& (6148914691236517205))) 2) &&& (3689348814741910323))) + (jush (((v0 - ((jush v0 1) &&& (6148914691236517205))) &&& (3689348814741910323)) + ((jush (v0 - ((jush v0 1) &&& (6148914691236517205))) 2) &&& (3689348814741910323))) 4)) &&& (1085102592571150095)) 8)) 16)) 32)) hx hb dJ13_bitCount_95d88_52 rfl ?_
  refine lv_ladd hx hb dJ13_bitCount_95d88_53 ?_
  refine lv_lstore_n (lv' := [(0, .long ((((((((v0 - ((jush v0 1) &&& (6148914691236517205))) &&& (3689348814741910323)) + ((jush (v0 - ((jush v0 1) &&& (6148914691236517205))) 2) &&& (3689348814741910323))) + (jush (((v0 - ((jush v0 1) &&& (6148914691236517205))) &&& (3689348814741910323)) + ((jush (v0 - ((jush v0 1) &&& (6148914691236517205))) 2) &&& (3689348814741910323))) 4)) &&& (1085102592571150095)) + (jush (((((v0 - ((jush v0 1) &&& (6148914691236517205))) &&& (3689348814741910323)) + ((jush (v0 - ((jush v0 1) &&& (6148914691236517205))) 2) &&& (3689348814741910323))) + (jush (((v0 - ((jush v0 1) &&& (6148914691236517205))) &&& (3689348814741910323)) + ((jush (v0 - ((jush v0 1) &&& (6148914691236517205))) 2) &&& (3689348814741910323))) 4)) &&& (1085102592571150095)) 8)) + (jush ((((((v0 - ((jush v0 1) &&& (6148914691236517205))) &&& (3689348814741910323)) + ((jush (v0 - ((jush v0 1) &&& (6148914691236517205))) 2) &&& (3689348814741910323))) + (jush (((v0 - ((jush v0 1) &&& (6148914691236517205))) &&& (3689348814741910323)) + ((jush (v0 - ((jush v0 1) &&& (6148914691236517205))) 2) &&& (3689348814741910323))) 4)) &&& (1085102592571150095)) + (jush (((((v0 - ((jush v0 1) &&& (6148914691236517205))) &&& (3689348814741910323)) + ((jush (v0 - ((jush v0 1) &&& (6148914691236517205))) 2) &&& (3689348814741910323))) + (jush (((v0 - ((jush v0 1) &&& (6148914691236517205))) &&& (3689348814741910323)) + ((jush (v0 - ((jush v0 1) &&& (6148914691236517205))) 2) &&& (3689348814741910323))) 4)) &&& (1085102592571150095)) 8)) 16)) + (jush (((((((v0 - ((jush v0 1) &&& (6148914691236517205))) &&& (3689348814741910323)) + ((jush (v0 - ((jush v0 1) &&& (6148914691236517205))) 2) &&& (3689348814741910323))) + (jush (((v0 - ((jush v0 1) &&& (6148914691236517205))) &&& (3689348814741910323)) + ((jush (v0 - ((jush v0 1) &&& (6148914691236517205))) 2) &&& (3689348814741910323))) 4)) &&& (1085102592571150095)) + (jush (((((v0 - ((jush v0 1) &&& (6148914691236517205))) &&& (3689348814741910323)) + ((jush (v0 - ((jush v0 1) &&& (6148914691236517205))) 2) &&& (3689348814741910323))) + (jush (((v0 - ((jush v0 1) &&& (6148914691236517205))) &&& (3689348814741910323)) + ((jush (v0 - ((jush v0 1) &&& (6148914691236517205))) 2) &&& (3689348814741910323))) 4)) &&& (1085102592571150095)) 8)) + (jush ((((((v0 - ((jush v0 1) &&& (6148914691236517205))) &&& (3689348814741910323)) + ((jush (v0 - ((jush v0 1) &&& (6148914691236517205))) 2) &&& (3689348814741910323))) + (jush (((v0 - ((jush v0 1) &&& (6148914691236517205))) &&& (3689348814741910323)) + ((jush (v0 - ((jush v0 1) &&& (6148914691236517205))) 2) &&& (3689348814741910323))) 4)) &&& (1085102592571150095)) + (jush (((((v0 - ((jush v0 1) &&& (6148914691236517205))) &&& (3689348814741910323)) + ((jush (v0 - ((jush v0 1) &&& (6148914691236517205))) 2) &&& (3689348814741910323))) + (jush (((v0 - ((jush v0 1) &&& (6148914691236517205))) &&& (3689348814741910323)) + ((jush (v0 - ((jush v0 1) &&& (6148914691236517205))) 2) &&& (3689348814741910323))) 4)) &&& (1085102592571150095)) 8)) 16)) 32)))]) hx hb dJ13_bitCount_95d88_54 rfl hl (by decide) rfl (fun ls hl => ?_)
  refine lv_lload_n hx hb dJ13_bitCount_95d88_55 rfl (lv_at hl 0 rfl) ?_
  refine lv_l2i (v := (((((((((v0 - ((jush v0 1) &&& (6148914691236517205))) &&& (3689348814741910323)) + ((jush (v0 - ((jush v0 1) &&& (6148914691236517205))) 2) &&& (3689348814741910323))) + (jush (((v0 - ((jush v0 1) &&& (6148914691236517205))) &&& (3689348814741910323)) + ((jush (v0 - ((jush v0 1) &&& (6148914691236517205))) 2) &&& (3689348814741910323))) 4)) &&& (1085102592571150095)) + (jush (((((v0 - ((jush v0 1) &&& (6148914691236517205))) &&& (3689348814741910323)) + ((jush (v0 - ((jush v0 1) &&& (6148914691236517205))) 2) &&& (3689348814741910323))) + (jush (((v0 - ((jush v0 1) &&& (6148914691236517205))) &&& (3689348814741910323)) + ((jush (v0 - ((jush v0 1) &&& (6148914691236517205))) 2) &&& (3689348814741910323))) 4)) &&& (1085102592571150095)) 8)) + (jush ((((((v0 - ((jush v0 1) &&& (6148914691236517205))) &&& (3689348814741910323)) + ((jush (v0 - ((jush v0 1) &&& (6148914691236517205))) 2) &&& (3689348814741910323))) + (jush (((v0 - ((jush v0 1) &&& (6148914691236517205))) &&& (3689348814741910323)) + ((jush (v0 - ((jush v0 1) &&& (6148914691236517205))) 2) &&& (3689348814741910323))) 4)) &&& (1085102592571150095)) + (jush (((((v0 - ((jush v0 1) &&& (6148914691236517205))) &&& (3689348814741910323)) + ((jush (v0 - ((jush v0 1) &&& (6148914691236517205))) 2) &&& (3689348814741910323))) + (jush (((v0 - ((jush v0 1) &&& (6148914691236517205))) &&& (3689348814741910323)) + ((jush (v0 - ((jush v0 1) &&& (6148914691236517205))) 2) &&& (3689348814741910323))) 4)) &&& (1085102592571150095)) 8)) 16)) + (jush (((((((v0 - ((jush v0 1) &&& (6148914691236517205))) &&& (3689348814741910323)) + ((jush (v0 - ((jush v0 1) &&& (6148914691236517205))) 2) &&& (3689348814741910323))) + (jush (((v0 - ((jush v0 1) &&& (6148914691236517205))) &&& (3689348814741910323)) + ((jush (v0 - ((jush v0 1) &&& (6148914691236517205))) 2) &&& (3689348814741910323))) 4)) &&& (1085102592571150095)) + (jush (((((v0 - ((jush v0 1) &&& (6148914691236517205))) &&& (3689348814741910323)) + ((jush (v0 - ((jush v0 1) &&& (6148914691236517205))) 2) &&& (3689348814741910323))) + (jush (((v0 - ((jush v0 1) &&& (6148914691236517205))) &&& (3689348814741910323)) + ((jush (v0 - ((jush v0 1) &&& (6148914691236517205))) 2) &&& (3689348814741910323))) 4)) &&& (1085102592571150095)) 8)) + (jush ((((((v0 - ((jush v0 1) &&& (6148914691236517205))) &&& (3689348814741910323)) + ((jush (v0 - ((jush v0 1) &&& (6148914691236517205))) 2) &&& (3689348814741910323))) + (jush (((v0 - ((jush v0 1) &&& (6148914691236517205))) &&& (3689348814741910323)) + ((jush (v0 - ((jush v0 1) &&& (6148914691236517205))) 2) &&& (3689348814741910323))) 4)) &&& (1085102592571150095)) + (jush (((((v0 - ((jush v0 1) &&& (6148914691236517205))) &&& (3689348814741910323)) + ((jush (v0 - ((jush v0 1) &&& (6148914691236517205))) 2) &&& (3689348814741910323))) + (jush (((v0 - ((jush v0 1) &&& (6148914691236517205))) &&& (3689348814741910323)) + ((jush (v0 - ((jush v0 1) &&& (6148914691236517205))) 2) &&& (3689348814741910323))) 4)) &&& (1085102592571150095)) 8)) 16)) 32)).toInt32)) hx hb dJ13_bitCount_95d88_56 rfl ?_
  refine lv_bipush (v := 127) hx hb dJ13_bitCount_95d88_57 (by decide) ?_
  refine lv_iand hx hb dJ13_bitCount_95d88_59 ?_
  exact rs_i hx hb hr hlk (Option.some.inj hf) hS dJ13_bitCount_95d88_60
theorem hd_J13_bitCount_95d88 : yJ13_bitCount_95d88.cls ≠ "java/lang/invoke/MethodHandle" ∧ yJ13_bitCount_95d88.cls ≠ "java/lang/invoke/VarHandle" ∧ (parseMethodDescriptor yJ13_bitCount_95d88.desc).map (fun d => d.parameters.length) = some 1 := by decide +kernel
set_option maxHeartbeats 4000000 in
set_option maxRecDepth 100000 in
theorem c_J13_bitCount_95d88 (l : Launch) (v0 : Int64) {res : Int32} (hf : p_J13_bitCount_95d88_0 v0 = some res) : Met l yJ13_bitCount_95d88 wsJ13_bitCount_95d88 ({ frames := 0, cells := 0, slots := 0, locals := 0 } : Room) (va_Pc [.long v0] (fun _ => True)) (va_Qi (fun (r : Int32) (_ : Unit) => r = res) (fun _ _ => True) (fun _ => False)) 0 0 (fun _ => False) := by
  refine Met.ofW (cc := cJ13_bitCount_95d88) (maxL := 2) (ret := (some .int)) (by decide) rfl ?_
  intro p e s m args below meth c s₁ B hml hv
  obtain ⟨rfl, -⟩ := hv
  have hm : mx p s m _ meth c cJ13_bitCount_95d88 2 (some .int) wsJ13_bitCount_95d88 RJ13 := ⟨B.exec, B.bytes, B.returns, hml, findClass_of_methodNamed B.named, atoms_spec (ws := wsJ13_bitCount_95d88) B.pre, B.notSynchronized⟩
  have hl := lv_entry ([.long v0]) (n := 2) (Nat.le_of_ble_eq_true rfl)
  rw [lg_entry_eq]
  generalize (lg_sl ([.long v0]) ++ List.replicate (2 - (lg_sl ([.long v0])).length) Slot.unset).toArray = ls at hl ⊢
  exact w_J13_bitCount_95d88_0 hm ⟨Nat.le_refl _, Nat.le_refl _⟩ v0 hf _ _ _ va_S.rf hl
/-! CallGraphs$Bits.has(JI)Z -/

def p_X0_has_15 (t0 : Int32) : Option (Int32) := ob t0 (some t0)
set_option maxHeartbeats 4000000 in
set_option maxRecDepth 100000 in
theorem w_X0_has_15 {p : Program} {l : Launch} {e : Env} {R : Room} {s : State} {m : MethodId} {args : Array Value} {below : List Frame} {meth : Method} {c : Code} {res : Int32} (hm : mx p s m args meth c cX0_has 3 (some .boolean) wsX0_has RX0) (hR : 0 ≤ R.frames ∧ 0 ≤ R.locals) (t0 : Int32) (hf : p_X0_has_15 t0 = some res) (H : Heap) (locs : List Loc) (ls : Array Slot) (hS : va_S (fun _ => False) s.heap H locs) (hl : lv_has ls 3 []) : W p l e R s m args below meth c H locs 0 0 (MQ below (va_Qi (fun (r : Int32) (_ : Unit) => r = res) (fun _ _ => True) (fun _ => False)) args s 0 0 (fun _ => False)) (F0 m 15 ls [.int t0]) := by
  obtain ⟨hx, hb, hr, hml, hown, hts, hlk⟩ := id hm
  unfold p_X0_has_15 at hf
  obtain ⟨h_15, hf⟩ := ob_e hf
  exact rs_z hx hb hr hlk h_15 (Option.some.inj hf) hS dX0_has_15
def p_X0_has_0 (v0 : Int64) (v2 : Int32) : Option (Int32) := if (lg_cmp ((jush v0 v2) &&& 1) 0) = 0 then p_X0_has_15 0 else p_X0_has_15 1
set_option maxHeartbeats 4000000 in
set_option maxRecDepth 100000 in
theorem w_X0_has_0 {p : Program} {l : Launch} {e : Env} {R : Room} {s : State} {m : MethodId} {args : Array Value} {below : List Frame} {meth : Method} {c : Code} {res : Int32} (hm : mx p s m args meth c cX0_has 3 (some .boolean) wsX0_has RX0) (hR : 0 ≤ R.frames ∧ 0 ≤ R.locals) (v0 : Int64) (v2 : Int32) (hf : p_X0_has_0 v0 v2 = some res) (H : Heap) (locs : List Loc) (ls : Array Slot) (hS : va_S (fun _ => False) s.heap H locs) (hl : lv_has ls 3 [(0, .long v0), (2, .int v2)]) : W p l e R s m args below meth c H locs 0 0 (MQ below (va_Qi (fun (r : Int32) (_ : Unit) => r = res) (fun _ _ => True) (fun _ => False)) args s 0 0 (fun _ => False)) (F0 m 0 ls []) := by
  obtain ⟨hx, hb, hr, hml, hown, hts, hlk⟩ := id hm
  unfold p_X0_has_0 at hf
  refine lv_lload_n hx hb dX0_has_0 rfl (lv_at hl 0 rfl) ?_
  refine lv_iload_n hx hb dX0_has_1 rfl (lv_at hl 1 rfl) ?_
  refine lv_lushr (v := (jush v0 v2)) hx hb dX0_has_2 rfl ?_
  refine lv_lconst (v := 1) hx hb dX0_has_3 (by decide) ?_
  refine lv_land hx hb dX0_has_4 ?_
  refine lv_lconst (v := 0) hx hb dX0_has_5 (by decide) ?_
  refine W.lcmp hx hb dX0_has_6 ?_
  refine lv_if_eq (tgt := 14) hx hb dX0_has_7 (by decide) (fun c_7 => ?_) (fun c_7 => ?_)
  · rw [if_pos c_7] at hf
    refine lv_iconst (v := 0) hx hb dX0_has_14 (by decide) ?_
    exact w_X0_has_15 hm hR 0 hf _ _ _ hS (lv_sub hl [] rfl)
  · rw [if_neg c_7] at hf
    refine lv_iconst (v := 1) hx hb dX0_has_10 (by decide) ?_
    refine lv_goto (tgt := 15) hx hb dX0_has_11 (by decide) ?_
    exact w_X0_has_15 hm hR 1 hf _ _ _ hS (lv_sub hl [] rfl)
theorem hd_X0_has : yX0_has.cls ≠ "java/lang/invoke/MethodHandle" ∧ yX0_has.cls ≠ "java/lang/invoke/VarHandle" ∧ (parseMethodDescriptor yX0_has.desc).map (fun d => d.parameters.length) = some 2 := by decide +kernel
set_option maxHeartbeats 4000000 in
set_option maxRecDepth 100000 in
theorem c_X0_has (l : Launch) (v0 : Int64) (v2 : Int32) {res : Int32} (hf : p_X0_has_0 v0 v2 = some res) : Met l yX0_has wsX0_has ({ frames := 0, cells := 0, slots := 0, locals := 0 } : Room) (va_Pc [.long v0, .int v2] (fun _ => True)) (va_Qi (fun (r : Int32) (_ : Unit) => r = res) (fun _ _ => True) (fun _ => False)) 0 0 (fun _ => False) := by
  refine Met.ofW (cc := cX0_has) (maxL := 3) (ret := (some .boolean)) (by decide) rfl ?_
  intro p e s m args below meth c s₁ B hml hv
  obtain ⟨rfl, -⟩ := hv
  have hm : mx p s m _ meth c cX0_has 3 (some .boolean) wsX0_has RX0 := ⟨B.exec, B.bytes, B.returns, hml, findClass_of_methodNamed B.named, atoms_spec (ws := wsX0_has) B.pre, B.notSynchronized⟩
  have hl := lv_entry ([.long v0, .int v2]) (n := 3) (Nat.le_of_ble_eq_true rfl)
  rw [lg_entry_eq]
  generalize (lg_sl ([.long v0, .int v2]) ++ List.replicate (3 - (lg_sl ([.long v0, .int v2])).length) Slot.unset).toArray = ls at hl ⊢
  exact w_X0_has_0 hm ⟨Nat.le_refl _, Nat.le_refl _⟩ v0 v2 hf _ _ _ va_S.rf hl
/-! CallGraphs$Bits.with(JI)J -/

def p_X0_with_0 (v0 : Int64) (v2 : Int32) : Option (Int64) := some (v0 ||| (jshl 1 v2))
set_option maxHeartbeats 4000000 in
set_option maxRecDepth 100000 in
theorem w_X0_with_0 {p : Program} {l : Launch} {e : Env} {R : Room} {s : State} {m : MethodId} {args : Array Value} {below : List Frame} {meth : Method} {c : Code} {res : Int64} (hm : mx p s m args meth c cX0_with 3 (some .long) wsX0_with RX0) (hR : 0 ≤ R.frames ∧ 0 ≤ R.locals) (v0 : Int64) (v2 : Int32) (hf : p_X0_with_0 v0 v2 = some res) (H : Heap) (locs : List Loc) (ls : Array Slot) (hS : va_S (fun _ => False) s.heap H locs) (hl : lv_has ls 3 [(0, .long v0), (2, .int v2)]) : W p l e R s m args below meth c H locs 0 0 (MQ below (va_Ql (fun (r : Int64) (_ : Unit) => r = res) (fun _ _ => True) (fun _ => False)) args s 0 0 (fun _ => False)) (F0 m 0 ls []) := by
  obtain ⟨hx, hb, hr, hml, hown, hts, hlk⟩ := id hm
  unfold p_X0_with_0 at hf
  refine lv_lload_n hx hb dX0_with_0 rfl (lv_at hl 0 rfl) ?_
  refine lv_lconst (v := 1) hx hb dX0_with_1 (by decide) ?_
  refine lv_iload_n hx hb dX0_with_2 rfl (lv_at hl 1 rfl) ?_
  refine lv_lshl (v := (jshl 1 v2)) hx hb dX0_with_3 rfl ?_
  refine lv_lor hx hb dX0_with_4 ?_
  exact rs_l hx hb hr hlk (Option.some.inj hf) hS dX0_with_5
theorem hd_X0_with : yX0_with.cls ≠ "java/lang/invoke/MethodHandle" ∧ yX0_with.cls ≠ "java/lang/invoke/VarHandle" ∧ (parseMethodDescriptor yX0_with.desc).map (fun d => d.parameters.length) = some 2 := by decide +kernel
set_option maxHeartbeats 4000000 in
set_option maxRecDepth 100000 in
theorem c_X0_with (l : Launch) (v0 : Int64) (v2 : Int32) {res : Int64} (hf : p_X0_with_0 v0 v2 = some res) : Met l yX0_with wsX0_with ({ frames := 0, cells := 0, slots := 0, locals := 0 } : Room) (va_Pc [.long v0, .int v2] (fun _ => True)) (va_Ql (fun (r : Int64) (_ : Unit) => r = res) (fun _ _ => True) (fun _ => False)) 0 0 (fun _ => False) := by
  refine Met.ofW (cc := cX0_with) (maxL := 3) (ret := (some .long)) (by decide) rfl ?_
  intro p e s m args below meth c s₁ B hml hv
  obtain ⟨rfl, -⟩ := hv
  have hm : mx p s m _ meth c cX0_with 3 (some .long) wsX0_with RX0 := ⟨B.exec, B.bytes, B.returns, hml, findClass_of_methodNamed B.named, atoms_spec (ws := wsX0_with) B.pre, B.notSynchronized⟩
  have hl := lv_entry ([.long v0, .int v2]) (n := 3) (Nat.le_of_ble_eq_true rfl)
  rw [lg_entry_eq]
  generalize (lg_sl ([.long v0, .int v2]) ++ List.replicate (3 - (lg_sl ([.long v0, .int v2])).length) Slot.unset).toArray = ls at hl ⊢
  exact w_X0_with_0 hm ⟨Nat.le_refl _, Nat.le_refl _⟩ v0 v2 hf _ _ _ va_S.rf hl
/-! CallGraphs$Bits.within(JJ)Z -/

def p_X0_within_17 (t0 : Int32) : Option (Int32) := ob t0 (some t0)
set_option maxHeartbeats 4000000 in
set_option maxRecDepth 100000 in
theorem w_X0_within_17 {p : Program} {l : Launch} {e : Env} {R : Room} {s : State} {m : MethodId} {args : Array Value} {below : List Frame} {meth : Method} {c : Code} {res : Int32} (hm : mx p s m args meth c cX0_within 4 (some .boolean) wsX0_within RX0) (hR : 0 ≤ R.frames ∧ 0 ≤ R.locals) (t0 : Int32) (hf : p_X0_within_17 t0 = some res) (H : Heap) (locs : List Loc) (ls : Array Slot) (hS : va_S (fun _ => False) s.heap H locs) (hl : lv_has ls 4 []) : W p l e R s m args below meth c H locs 0 0 (MQ below (va_Qi (fun (r : Int32) (_ : Unit) => r = res) (fun _ _ => True) (fun _ => False)) args s 0 0 (fun _ => False)) (F0 m 17 ls [.int t0]) := by
  obtain ⟨hx, hb, hr, hml, hown, hts, hlk⟩ := id hm
  unfold p_X0_within_17 at hf
  obtain ⟨h_17, hf⟩ := ob_e hf
  exact rs_z hx hb hr hlk h_17 (Option.some.inj hf) hS dX0_within_17
def p_X0_within_0 (v0 : Int64) (v2 : Int64) : Option (Int32) := if (lg_cmp (v0 &&& (v2 ^^^ (-1))) 0) = 0 then p_X0_within_17 1 else p_X0_within_17 0
set_option maxHeartbeats 4000000 in
set_option maxRecDepth 100000 in
theorem w_X0_within_0 {p : Program} {l : Launch} {e : Env} {R : Room} {s : State} {m : MethodId} {args : Array Value} {below : List Frame} {meth : Method} {c : Code} {res : Int32} (hm : mx p s m args meth c cX0_within 4 (some .boolean) wsX0_within RX0) (hR : 0 ≤ R.frames ∧ 0 ≤ R.locals) (v0 : Int64) (v2 : Int64) (hf : p_X0_within_0 v0 v2 = some res) (H : Heap) (locs : List Loc) (ls : Array Slot) (hS : va_S (fun _ => False) s.heap H locs) (hl : lv_has ls 4 [(0, .long v0), (2, .long v2)]) : W p l e R s m args below meth c H locs 0 0 (MQ below (va_Qi (fun (r : Int32) (_ : Unit) => r = res) (fun _ _ => True) (fun _ => False)) args s 0 0 (fun _ => False)) (F0 m 0 ls []) := by
  obtain ⟨hx, hb, hr, hml, hown, hts, hlk⟩ := id hm
  unfold p_X0_within_0 at hf
  refine lv_lload_n hx hb dX0_within_0 rfl (lv_at hl 0 rfl) ?_
  refine lv_lload_n hx hb dX0_within_1 rfl (lv_at hl 1 rfl) ?_
  refine lv_ldc2 hx hb hown (hts (.constantLong RX0 9 (-1)) (List.mem_of_getElem? (i := 1) rfl)) dX0_within_2 ?_
  refine lv_lxor hx hb dX0_within_5 ?_
  refine lv_land hx hb dX0_within_6 ?_
  refine lv_lconst (v := 0) hx hb dX0_within_7 (by decide) ?_
  refine W.lcmp hx hb dX0_within_8 ?_
  refine lv_if_ne (tgt := 16) hx hb dX0_within_9 (by decide) (fun c_9 => ?_) (fun c_9 => ?_)
  · rw [if_neg c_9] at hf
    refine lv_iconst (v := 0) hx hb dX0_within_16 (by decide) ?_
    exact w_X0_within_17 hm hR 0 hf _ _ _ hS (lv_sub hl [] rfl)
  · rw [if_pos c_9] at hf
    refine lv_iconst (v := 1) hx hb dX0_within_12 (by decide) ?_
    refine lv_goto (tgt := 17) hx hb dX0_within_13 (by decide) ?_
    exact w_X0_within_17 hm hR 1 hf _ _ _ hS (lv_sub hl [] rfl)
theorem hd_X0_within : yX0_within.cls ≠ "java/lang/invoke/MethodHandle" ∧ yX0_within.cls ≠ "java/lang/invoke/VarHandle" ∧ (parseMethodDescriptor yX0_within.desc).map (fun d => d.parameters.length) = some 2 := by decide +kernel
set_option maxHeartbeats 4000000 in
set_option maxRecDepth 100000 in
theorem c_X0_within (l : Launch) (v0 : Int64) (v2 : Int64) {res : Int32} (hf : p_X0_within_0 v0 v2 = some res) : Met l yX0_within wsX0_within ({ frames := 0, cells := 0, slots := 0, locals := 0 } : Room) (va_Pc [.long v0, .long v2] (fun _ => True)) (va_Qi (fun (r : Int32) (_ : Unit) => r = res) (fun _ _ => True) (fun _ => False)) 0 0 (fun _ => False) := by
  refine Met.ofW (cc := cX0_within) (maxL := 4) (ret := (some .boolean)) (by decide) rfl ?_
  intro p e s m args below meth c s₁ B hml hv
  obtain ⟨rfl, -⟩ := hv
  have hm : mx p s m _ meth c cX0_within 4 (some .boolean) wsX0_within RX0 := ⟨B.exec, B.bytes, B.returns, hml, findClass_of_methodNamed B.named, atoms_spec (ws := wsX0_within) B.pre, B.notSynchronized⟩
  have hl := lv_entry ([.long v0, .long v2]) (n := 4) (Nat.le_of_ble_eq_true rfl)
  rw [lg_entry_eq]
  generalize (lg_sl ([.long v0, .long v2]) ++ List.replicate (4 - (lg_sl ([.long v0, .long v2])).length) Slot.unset).toArray = ls at hl ⊢
  exact w_X0_within_0 hm ⟨Nat.le_refl _, Nat.le_refl _⟩ v0 v2 hf _ _ _ va_S.rf hl
/-! CallGraphs$Bits.nth(JI)I -/

def p_X0_nth_12 : Option (Int32) := some (-1)
set_option maxHeartbeats 4000000 in
set_option maxRecDepth 100000 in
theorem w_X0_nth_12 {p : Program} {l : Launch} {e : Env} {R : Room} {s : State} {m : MethodId} {args : Array Value} {below : List Frame} {meth : Method} {c : Code} {res : Int32} (hm : mx p s m args meth c cX0_nth 5 (some .int) wsX0_nth RX0) (hR : 1 ≤ R.frames ∧ 22 ≤ R.locals) (hf : p_X0_nth_12 = some res) (H : Heap) (locs : List Loc) (ls : Array Slot) (hS : va_S (fun _ => False) s.heap H locs) (hl : lv_has ls 5 []) : W p l e R s m args below meth c H locs 0 0 (MQ below (va_Qi (fun (r : Int32) (_ : Unit) => r = res) (fun _ _ => True) (fun _ => False)) args s 0 0 (fun _ => False)) (F0 m 12 ls []) := by
  obtain ⟨hx, hb, hr, hml, hown, hts, hlk⟩ := id hm
  unfold p_X0_nth_12 at hf
  refine lv_iconst (v := (-1)) hx hb dX0_nth_12 (by decide) ?_
  exact rs_i hx hb hr hlk (Option.some.inj hf) hS dX0_nth_13
def p_X0_nth_49 (k19 : Int64 → Int32 → Int32 → Int32 → Option (Int32)) (v0 : Int64) (v2 : Int32) (v3 : Int32) (v4 : Int32) : Option (Int32) := k19 v0 v2 v3 (v4 + 1)
set_option maxHeartbeats 4000000 in
set_option maxRecDepth 100000 in
theorem w_X0_nth_49 {p : Program} {l : Launch} {e : Env} {R : Room} {s : State} {m : MethodId} {args : Array Value} {below : List Frame} {meth : Method} {c : Code} {res : Int32} (hm : mx p s m args meth c cX0_nth 5 (some .int) wsX0_nth RX0) (hR : 1 ≤ R.frames ∧ 22 ≤ R.locals) (k19 : Int64 → Int32 → Int32 → Int32 → Option (Int32)) (hk19 : ∀ (v0 : Int64) (v2 : Int32) (v3 : Int32) (v4 : Int32), k19 v0 v2 v3 v4 = some res → ∀ (H : Heap) (locs : List Loc) (ls : Array Slot), va_S (fun _ => False) s.heap H locs → lv_has ls 5 [(0, .long v0), (2, .int v2), (3, .int v3), (4, .int v4)] → W p l e R s m args below meth c H locs 0 0 (MQ below (va_Qi (fun (r : Int32) (_ : Unit) => r = res) (fun _ _ => True) (fun _ => False)) args s 0 0 (fun _ => False)) (F0 m 19 ls [])) (v0 : Int64) (v2 : Int32) (v3 : Int32) (v4 : Int32) (hf : p_X0_nth_49 k19 v0 v2 v3 v4 = some res) (H : Heap) (locs : List Loc) (ls : Array Slot) (hS : va_S (fun _ => False) s.heap H locs) (hl : lv_has ls 5 [(0, .long v0), (2, .int v2), (3, .int v3), (4, .int v4)]) : W p l e R s m args below meth c H locs 0 0 (MQ below (va_Qi (fun (r : Int32) (_ : Unit) => r = res) (fun _ _ => True) (fun _ => False)) args s 0 0 (fun _ => False)) (F0 m 49 ls []) := by
  obtain ⟨hx, hb, hr, hml, hown, hts, hlk⟩ := id hm
  unfold p_X0_nth_49 at hf
  refine lv_iinc (v := (v4 + 1)) (lv' := [(4, .int (v4 + 1)), (0, .long v0), (2, .int v2), (3, .int v3)]) hx hb dX0_nth_49 hl (k := 3) rfl rfl (by decide) rfl (fun ls hl => ?_)
  refine lv_goto (tgt := 19) hx hb dX0_nth_52 (by decide) ?_
  exact hk19 v0 v2 v3 (v4 + 1) hf _ _ _ hS (lv_sub hl [1, 2, 3, 0] rfl)
def p_X0_nth_19 : Nat → Int64 → Int32 → Int32 → Int32 → Option (Int32)
  | 0, _, _, _, _ => none
  | n + 1, v0, v2, v3, v4 => let k19 := p_X0_nth_19 n; if 64 ≤ v4 then some (-1) else oc (p_X0_has_0 v0 v4) (fun r_29 => if r_29 = 0 then p_X0_nth_49 k19 v0 v2 v3 v4 else if v3 = v2 then some v4 else p_X0_nth_49 k19 v0 v2 (v3 + 1) v4)
set_option maxHeartbeats 4000000 in
set_option maxRecDepth 100000 in
theorem w_X0_nth_19 {p : Program} {l : Launch} {e : Env} {R : Room} {s : State} {m : MethodId} {args : Array Value} {below : List Frame} {meth : Method} {c : Code} {res : Int32} (hm : mx p s m args meth c cX0_nth 5 (some .int) wsX0_nth RX0) (hR : 1 ≤ R.frames ∧ 22 ≤ R.locals) : ∀ (n : Nat) (v0 : Int64) (v2 : Int32) (v3 : Int32) (v4 : Int32), p_X0_nth_19 n v0 v2 v3 v4 = some res → ∀ (H : Heap) (locs : List Loc) (ls : Array Slot), va_S (fun _ => False) s.heap H locs → lv_has ls 5 [(0, .long v0), (2, .int v2), (3, .int v3), (4, .int v4)] → W p l e R s m args below meth c H locs 0 0 (MQ below (va_Qi (fun (r : Int32) (_ : Unit) => r = res) (fun _ _ => True) (fun _ => False)) args s 0 0 (fun _ => False)) (F0 m 19 ls []) := by
  obtain ⟨hx, hb, hr, hml, hown, hts, hlk⟩ := id hm
  intro n
  induction n with
  | zero =>
    intro _ _ _ _ hf
    cases hf
  | succ n hk19 =>
    intro v0 v2 v3 v4 hf H locs ls hS hl
    rw [p_X0_nth_19] at hf
    try dsimp only at hf
    refine lv_iload hx hb dX0_nth_19 (lv_at hl 3 rfl) ?_
    refine lv_bipush (v := 64) hx hb dX0_nth_21 (by decide) ?_
    refine lv_icmp_ge (tgt := 55) hx hb dX0_nth_23 (by decide) (fun c_23 => ?_) (fun c_23 => ?_)
    · rw [if_pos c_23] at hf
      refine lv_iconst (v := (-1)) hx hb dX0_nth_55 (by decide) ?_
      exact rs_i hx hb hr hlk (Option.some.inj hf) hS dX0_nth_56
    · rw [if_neg c_23] at hf
      refine lv_lload_n hx hb dX0_nth_26 rfl (lv_at hl 0 rfl) ?_
      refine lv_iload hx hb dX0_nth_27 (lv_at hl 3 rfl) ?_
      obtain ⟨r_29, hg_29, hf⟩ := oc_e hf
      refine mS_i (D := (fun _ => 0, fun _ _ => 0)) (w := []) (As := [.long v0, .int v4]) (rest := []) ⟨hx, hb, hml, hown, hts⟩ (fun _ _ h => by cases h) hS (c_X0_has l v0 v4 hg_29) (va_cwS 2 hts gX0_nth_X0_has rfl rfl rfl hd_X0_has ⟨Nat.le_trans (Nat.le_of_ble_eq_true rfl) hR.1, Nat.le_trans (Nat.le_of_ble_eq_true rfl) hR.2⟩) rfl hl.1 rfl (Nat.le_of_ble_eq_true rfl) dX0_nth_29 (fun H locs _ hS => ?_)
      refine lv_if_ne (tgt := 38) hx hb dX0_nth_32 (by decide) (fun c_32 => ?_) (fun c_32 => ?_)
      · rw [if_neg c_32] at hf
        refine lv_iload_n hx hb dX0_nth_38 rfl (lv_at hl 2 rfl) ?_
        refine lv_iload_n hx hb dX0_nth_39 rfl (lv_at hl 1 rfl) ?_
        refine lv_icmp_ne (tgt := 46) hx hb dX0_nth_40 (by decide) (fun c_40 => ?_) (fun c_40 => ?_)
        · rw [if_neg c_40] at hf
          refine lv_iinc (v := (v3 + 1)) (lv' := [(3, .int (v3 + 1)), (0, .long v0), (2, .int v2), (4, .int v4)]) hx hb dX0_nth_46 hl (k := 2) rfl rfl (by decide) rfl (fun ls hl => ?_)
          exact w_X0_nth_49 hm hR (p_X0_nth_19 n) hk19 v0 v2 (v3 + 1) v4 hf _ _ _ hS (lv_sub hl [1, 2, 0, 3] rfl)
        · rw [if_pos c_40] at hf
          refine lv_iload hx hb dX0_nth_43 (lv_at hl 3 rfl) ?_
          exact rs_i hx hb hr hlk (Option.some.inj hf) hS dX0_nth_45
      · rw [if_pos c_32] at hf
        refine lv_goto (tgt := 49) hx hb dX0_nth_35 (by decide) ?_
        exact w_X0_nth_49 hm hR (p_X0_nth_19 n) hk19 v0 v2 v3 v4 hf _ _ _ hS (lv_sub hl [0, 1, 2, 3] rfl)
def p_X0_nth_0 (v0 : Int64) (v2 : Int32) : Option (Int32) := if v2 < 0 then p_X0_nth_12 else oc (p_J13_bitCount_95d88_0 v0) (fun r_6 => if v2 < r_6 then p_X0_nth_19 100000 v0 v2 0 0 else p_X0_nth_12)
set_option maxHeartbeats 4000000 in
set_option maxRecDepth 100000 in
theorem w_X0_nth_0 {p : Program} {l : Launch} {e : Env} {R : Room} {s : State} {m : MethodId} {args : Array Value} {below : List Frame} {meth : Method} {c : Code} {res : Int32} (hm : mx p s m args meth c cX0_nth 5 (some .int) wsX0_nth RX0) (hR : 1 ≤ R.frames ∧ 22 ≤ R.locals) (v0 : Int64) (v2 : Int32) (hf : p_X0_nth_0 v0 v2 = some res) (H : Heap) (locs : List Loc) (ls : Array Slot) (hS : va_S (fun _ => False) s.heap H locs) (hl : lv_has ls 5 [(0, .long v0), (2, .int v2)]) : W p l e R s m args below meth c H locs 0 0 (MQ below (va_Qi (fun (r : Int32) (_ : Unit) => r = res) (fun _ _ => True) (fun _ => False)) args s 0 0 (fun _ => False)) (F0 m 0 ls []) := by
  obtain ⟨hx, hb, hr, hml, hown, hts, hlk⟩ := id hm
  unfold p_X0_nth_0 at hf
  refine lv_iload_n hx hb dX0_nth_0 rfl (lv_at hl 1 rfl) ?_
  refine lv_if_lt (tgt := 12) hx hb dX0_nth_1 (by decide) (fun c_1 => ?_) (fun c_1 => ?_)
  · rw [if_pos c_1] at hf
    exact w_X0_nth_12 hm hR hf _ _ _ hS (lv_sub hl [] rfl)
  · rw [if_neg c_1] at hf
    refine lv_iload_n hx hb dX0_nth_4 rfl (lv_at hl 1 rfl) ?_
    refine lv_lload_n hx hb dX0_nth_5 rfl (lv_at hl 0 rfl) ?_
    obtain ⟨r_6, hg_6, hf⟩ := oc_e hf
    refine mS_i (D := (fun _ => 0, fun _ _ => 0)) (w := []) (As := [.long v0]) (rest := [.int v2]) ⟨hx, hb, hml, hown, hts⟩ (fun _ _ h => by cases h) hS (c_J13_bitCount_95d88 l v0 hg_6) (va_cwS 1 hts gX0_nth_J13_bitCount_95d88 rfl rfl rfl hd_J13_bitCount_95d88 ⟨Nat.le_trans (Nat.le_of_ble_eq_true rfl) hR.1, Nat.le_trans (Nat.le_of_ble_eq_true rfl) hR.2⟩) rfl hl.1 rfl (Nat.le_of_ble_eq_true rfl) dX0_nth_6 (fun H locs _ hS => ?_)
    refine lv_icmp_lt (tgt := 14) hx hb dX0_nth_9 (by decide) (fun c_9 => ?_) (fun c_9 => ?_)
    · rw [if_pos c_9] at hf
      refine lv_iconst (v := 0) hx hb dX0_nth_14 (by decide) ?_
      refine lv_istore_n (lv' := [(3, .int 0), (0, .long v0), (2, .int v2)]) hx hb dX0_nth_15 rfl hl (by decide) rfl (fun ls hl => ?_)
      refine lv_iconst (v := 0) hx hb dX0_nth_16 (by decide) ?_
      refine lv_istore (lv' := [(4, .int 0), (3, .int 0), (0, .long v0), (2, .int v2)]) hx hb dX0_nth_17 hl (by decide) rfl (fun ls hl => ?_)
      exact w_X0_nth_19 hm hR 100000 v0 v2 0 0 hf _ _ _ hS (lv_sub hl [2, 3, 1, 0] rfl)
    · rw [if_neg c_9] at hf
      exact w_X0_nth_12 hm hR hf _ _ _ hS (lv_sub hl [] rfl)
theorem hd_X0_nth : yX0_nth.cls ≠ "java/lang/invoke/MethodHandle" ∧ yX0_nth.cls ≠ "java/lang/invoke/VarHandle" ∧ (parseMethodDescriptor yX0_nth.desc).map (fun d => d.parameters.length) = some 2 := by decide +kernel
set_option maxHeartbeats 4000000 in
set_option maxRecDepth 100000 in
theorem c_X0_nth (l : Launch) (v0 : Int64) (v2 : Int32) {res : Int32} (hf : p_X0_nth_0 v0 v2 = some res) : Met l yX0_nth wsX0_nth ({ frames := 1, cells := 0, slots := 0, locals := 22 } : Room) (va_Pc [.long v0, .int v2] (fun _ => True)) (va_Qi (fun (r : Int32) (_ : Unit) => r = res) (fun _ _ => True) (fun _ => False)) 0 0 (fun _ => False) := by
  refine Met.ofW (cc := cX0_nth) (maxL := 5) (ret := (some .int)) (by decide) rfl ?_
  intro p e s m args below meth c s₁ B hml hv
  obtain ⟨rfl, -⟩ := hv
  have hm : mx p s m _ meth c cX0_nth 5 (some .int) wsX0_nth RX0 := ⟨B.exec, B.bytes, B.returns, hml, findClass_of_methodNamed B.named, atoms_spec (ws := wsX0_nth) B.pre, B.notSynchronized⟩
  have hl := lv_entry ([.long v0, .int v2]) (n := 5) (Nat.le_of_ble_eq_true rfl)
  rw [lg_entry_eq]
  generalize (lg_sl ([.long v0, .int v2]) ++ List.replicate (5 - (lg_sl ([.long v0, .int v2])).length) Slot.unset).toArray = ls at hl ⊢
  exact w_X0_nth_0 hm ⟨Nat.le_refl _, Nat.le_refl _⟩ v0 v2 hf _ _ _ va_S.rf hl
/-! CallGraphs$Bits.least(J)I -/

def p_X0_least_0 (v0 : Int64) : Option (Int32) := oc (p_X0_nth_0 v0 0) (fun r_2 => some r_2)
set_option maxHeartbeats 4000000 in
set_option maxRecDepth 100000 in
theorem w_X0_least_0 {p : Program} {l : Launch} {e : Env} {R : Room} {s : State} {m : MethodId} {args : Array Value} {below : List Frame} {meth : Method} {c : Code} {res : Int32} (hm : mx p s m args meth c cX0_least 2 (some .int) wsX0_least RX0) (hR : 2 ≤ R.frames ∧ 46 ≤ R.locals) (v0 : Int64) (hf : p_X0_least_0 v0 = some res) (H : Heap) (locs : List Loc) (ls : Array Slot) (hS : va_S (fun _ => False) s.heap H locs) (hl : lv_has ls 2 [(0, .long v0)]) : W p l e R s m args below meth c H locs 0 0 (MQ below (va_Qi (fun (r : Int32) (_ : Unit) => r = res) (fun _ _ => True) (fun _ => False)) args s 0 0 (fun _ => False)) (F0 m 0 ls []) := by
  obtain ⟨hx, hb, hr, hml, hown, hts, hlk⟩ := id hm
  unfold p_X0_least_0 at hf
  refine lv_lload_n hx hb dX0_least_0 rfl (lv_at hl 0 rfl) ?_
  refine lv_iconst (v := 0) hx hb dX0_least_1 (by decide) ?_
  obtain ⟨r_2, hg_2, hf⟩ := oc_e hf
  refine mS_i (D := (fun _ => 0, fun _ _ => 0)) (w := []) (As := [.long v0, .int 0]) (rest := []) ⟨hx, hb, hml, hown, hts⟩ (fun _ _ h => by cases h) hS (c_X0_nth l v0 0 hg_2) (va_cwS 2 hts gX0_least_X0_nth rfl rfl rfl hd_X0_nth ⟨Nat.le_trans (Nat.le_of_ble_eq_true rfl) hR.1, Nat.le_trans (Nat.le_of_ble_eq_true rfl) hR.2⟩) rfl hl.1 rfl (Nat.le_of_ble_eq_true rfl) dX0_least_2 (fun H locs _ hS => ?_)
  exact rs_i hx hb hr hlk (Option.some.inj hf) hS dX0_least_5
theorem hd_X0_least : yX0_least.cls ≠ "java/lang/invoke/MethodHandle" ∧ yX0_least.cls ≠ "java/lang/invoke/VarHandle" ∧ (parseMethodDescriptor yX0_least.desc).map (fun d => d.parameters.length) = some 1 := by decide +kernel
set_option maxHeartbeats 4000000 in
set_option maxRecDepth 100000 in
theorem c_X0_least (l : Launch) (v0 : Int64) {res : Int32} (hf : p_X0_least_0 v0 = some res) : Met l yX0_least wsX0_least ({ frames := 2, cells := 0, slots := 0, locals := 46 } : Room) (va_Pc [.long v0] (fun _ => True)) (va_Qi (fun (r : Int32) (_ : Unit) => r = res) (fun _ _ => True) (fun _ => False)) 0 0 (fun _ => False) := by
  refine Met.ofW (cc := cX0_least) (maxL := 2) (ret := (some .int)) (by decide) rfl ?_
  intro p e s m args below meth c s₁ B hml hv
  obtain ⟨rfl, -⟩ := hv
  have hm : mx p s m _ meth c cX0_least 2 (some .int) wsX0_least RX0 := ⟨B.exec, B.bytes, B.returns, hml, findClass_of_methodNamed B.named, atoms_spec (ws := wsX0_least) B.pre, B.notSynchronized⟩
  have hl := lv_entry ([.long v0]) (n := 2) (Nat.le_of_ble_eq_true rfl)
  rw [lg_entry_eq]
  generalize (lg_sl ([.long v0]) ++ List.replicate (2 - (lg_sl ([.long v0])).length) Slot.unset).toArray = ls at hl ⊢
  exact w_X0_least_0 hm ⟨Nat.le_refl _, Nat.le_refl _⟩ v0 hf _ _ _ va_S.rf hl
