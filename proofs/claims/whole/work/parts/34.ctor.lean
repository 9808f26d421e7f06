/-! the constructors -/
theorem va_D_same {A : Nat → Prop} {w w' : va_W} (h : va_D A w) (e : w.map (·.1) = w'.map (·.1)) : va_D A w' := by
  have key : ∀ (i : Nat) (x : Nat × va_E), w'[i]? = some x → ∃ y, w[i]? = some y ∧ y.1 = x.1 := by
    intro i x hx
    have h1 : (w'.map (·.1))[i]? = some x.1 := by rw [List.getElem?_map, hx]; rfl
    rw [← e, List.getElem?_map] at h1
    cases hw : w[i]? with
    | none => rw [hw] at h1; cases h1
    | some y => rw [hw] at h1; exact ⟨y, rfl, Option.some.inj h1⟩
  refine ⟨fun i j x y hx hy hxy => ?_, fun k x hx => ?_⟩
  · obtain ⟨x0, g1, g2⟩ := key i x hx
    obtain ⟨y0, g3, g4⟩ := key j y hy
    exact h.1 i j x0 y0 g1 g3 (by rw [g2, g4]; exact hxy)
  · obtain ⟨x0, g1, g2⟩ := key k x hx
    rw [← g2]
    exact h.2 k x0 g1

theorem in_X6_init_X6 : ∀ w ∈ u_ws RX6 TX6 6, w ∈ wsX6_init := fun w h => List.mem_cons_of_mem _ (List.mem_append_right _ h)
set_option maxHeartbeats 4000000 in
set_option maxRecDepth 100000 in
theorem c_X6_init (l : Launch) (D : va_G) (cI cJ cZ : ClassId) (h0 sz : Nat) : Met l yX6_init wsX6_init ({ frames := 1, cells := 4, slots := 64, locals := 60 } : Room) (va_Pc [.ref h0] (fun U => U.heap.size = sz ∧ va_P D vwCl [(h0, .inr (5, [.null, .null, .null, .null, .long 0, .int 0]))] U.heap ∧ va_K D vwCl (tyw cI cJ cZ) U ∧ va_D (fun _ => True) [(h0, .inr (5, [.null, .null, .null, .null, .long 0, .int 0]))])) (va_Qv (fun _ : Nat → Nat => True) (fun u t => va_P D vwCl [(h0, .inr (5, [.ref (u 0), .ref (u 1), .ref (u 2), .ref (u 3), .long 0, .int 0])), ((u 0), .inl (cI, 16, .inl (fun _ => 0))), ((u 1), .inl (cI, 16, .inl (fun _ => 0))), ((u 2), .inl (cJ, 16, .inr (.inl (fun _ => 0)))), ((u 3), .inl (cJ, 16, .inr (.inl (fun _ => 0))))] t.heap ∧ va_D (va_A [(h0, .inr (5, [.null, .null, .null, .null, .long 0, .int 0]))] sz) [(h0, .inr (5, [.ref (u 0), .ref (u 1), .ref (u 2), .ref (u 3), .long 0, .int 0])), ((u 0), .inl (cI, 16, .inl (fun _ => 0))), ((u 1), .inl (cI, 16, .inl (fun _ => 0))), ((u 2), .inl (cJ, 16, .inr (.inl (fun _ => 0)))), ((u 3), .inl (cJ, 16, .inr (.inl (fun _ => 0))))]) (va_A [(h0, .inr (5, [.null, .null, .null, .null, .long 0, .int 0]))] sz)) 4 64 (va_A [(h0, .inr (5, [.null, .null, .null, .null, .long 0, .int 0]))] sz) := by
  refine Met.ofW (cc := cX6_init) (maxL := 1) (ret := none) (by decide) rfl ?_
  intro p e s m args below meth c s₁ B hml hv
  obtain ⟨rfl, hsz, hP, hK, hD0⟩ := hv
  have hx := B.exec
  have hb := B.bytes
  have hr := B.returns
  have hts := atoms_spec (ws := wsX6_init) B.pre
  have hown : s.vm.findClass RX6 = some m.cls := findClass_of_methodNamed B.named
  have hlocks := B.notSynchronized
  have hin : meth.name = "<init>" := (name_of_methodNamed B.named B.method).1
  subst hsz
  have hD := hD0.self (sz := s.heap.size)
  generalize hAe : va_A [(h0, .inr (5, [.null, .null, .null, .null, .long 0, .int 0]))] s.heap.size = A at hD ⊢
  have hA : ∀ q : Nat, s.heap.size ≤ q → A q := fun q h => by rw [← hAe]; exact Or.inr h
  have hS : va_S A s.heap s.heap [] := va_S.rf
  have hl := lv_entry ([.ref h0]) (n := 1) (Nat.le_of_ble_eq_true rfl)
  rw [lg_entry_eq]
  generalize (lg_sl ([.ref h0]) ++ List.replicate (1 - (lg_sl ([.ref h0])).length) Slot.unset).toArray = ls at hl ⊢
  have hl : lv_has ls 1 [(0, .ref h0)] := hl
  refine lv_aload_n hx hb dX6_init_0 rfl (lv_at hl 0 rfl) ?_
  refine W.objInit hx hb hown (hts (.methodLink RX6 3 objectInit) (List.mem_of_getElem? (i := 1) rfl)) (hts (.instanceMethod objectInit) (List.mem_of_getElem? (i := 2) rfl)) (hts (.code objectInit ⟨#[0xb1]⟩ 1 none) (List.mem_of_getElem? (i := 3) rfl)) rfl (by rw [hml]; exact hl.1) rfl dX6_init_1 (Nat.le_of_ble_eq_true rfl) (Nat.le_of_ble_eq_true rfl) ?_
  refine W.eq (g2 := F0 m 4 ls []) rfl ?_
  refine lv_aload_n hx hb dX6_init_4 rfl (lv_at hl 0 rfl) ?_
  refine lv_bipush (v := 16) hx hb dX6_init_5 (by decide) ?_
  refine va_newa (atype := .int) (n := 16) (N' := 16) (a0 := (16, .inl (fun _ => 0))) (ty := .int) hx hb (hts (.arrayClass .int) (List.mem_of_getElem? (i := 4) rfl)) rfl hK hP hD hS hA (fun _ => rfl) (by decide) (by decide) (by decide) (Nat.le_of_ble_eq_true rfl) (Nat.le_of_ble_eq_true rfl) dX6_init_7 (fun q1 cA1 H hK1 hP hD hS => ?_)
  refine W.widen (k := 1) (n := 16) (Nat.le_of_ble_eq_true rfl) (Nat.le_of_ble_eq_true rfl) ?_
  have e1 : cA1 = cI := Option.some.inj ((va_nm_int (hK1.2 3 _ rfl).2).symm.trans (va_nm_int (hK.2 0 _ rfl).2))
  rw [e1] at hP hD
  have hP : va_P D vwCl [(h0, .inr (5, [.null, .null, .null, .null, .long 0, .int 0])), (q1, .inl (cI, 16, .inl (fun _ => 0)))] H := hP
  have hD : va_D A [(h0, .inr (5, [.null, .null, .null, .null, .long 0, .int 0])), (q1, .inl (cI, 16, .inl (fun _ => 0)))] := hD
  refine va_putF (D := D) (ci := 5) (v := .ref q1) (ty := tyX6 0) (C := RX6) (T := TX6) (N := 6) hx hb hts in_X6_init_X6 tyX6 tyX6_ok nmX6 hown hK hP hD hS 0 rfl rfl 0 (by decide) (hts (.fieldLink RX6 9 "CallGraphs$Types" "kinds" "[I") (List.mem_of_getElem? (i := 5) rfl)) (fun _ h9 => h9) rfl hin rfl (tyX6_ok 0 (by decide)) rfl rfl (Nat.le_of_ble_eq_true rfl) dX6_init_9 (fun H locs hP hD hS => ?_)
  have hP : va_P D vwCl [(h0, .inr (5, [.ref q1, .null, .null, .null, .long 0, .int 0])), (q1, .inl (cI, 16, .inl (fun _ => 0)))] H := hP
  have hD : va_D A [(h0, .inr (5, [.ref q1, .null, .null, .null, .long 0, .int 0])), (q1, .inl (cI, 16, .inl (fun _ => 0)))] := hD
  refine lv_aload_n hx hb dX6_init_12 rfl (lv_at hl 0 rfl) ?_
  refine lv_bipush (v := 16) hx hb dX6_init_13 (by decide) ?_
  refine va_newa (atype := .int) (n := 16) (N' := 16) (a0 := (16, .inl (fun _ => 0))) (ty := .int) hx hb (hts (.arrayClass .int) (List.mem_of_getElem? (i := 4) rfl)) rfl hK hP hD hS hA (fun _ => rfl) (by decide) (by decide) (by decide) (Nat.le_of_ble_eq_true rfl) (Nat.le_of_ble_eq_true rfl) dX6_init_15 (fun q2 cA2 H hK1 hP hD hS => ?_)
  refine W.widen (k := 2) (n := 32) (Nat.le_of_ble_eq_true rfl) (Nat.le_of_ble_eq_true rfl) ?_
  have e2 : cA2 = cI := Option.some.inj ((va_nm_int (hK1.2 3 _ rfl).2).symm.trans (va_nm_int (hK.2 0 _ rfl).2))
  rw [e2] at hP hD
  have hP : va_P D vwCl [(h0, .inr (5, [.ref q1, .null, .null, .null, .long 0, .int 0])), (q1, .inl (cI, 16, .inl (fun _ => 0))), (q2, .inl (cI, 16, .inl (fun _ => 0)))] H := hP
  have hD : va_D A [(h0, .inr (5, [.ref q1, .null, .null, .null, .long 0, .int 0])), (q1, .inl (cI, 16, .inl (fun _ => 0))), (q2, .inl (cI, 16, .inl (fun _ => 0)))] := hD
  refine va_putF (D := D) (ci := 5) (v := .ref q2) (ty := tyX6 1) (C := RX6) (T := TX6) (N := 6) hx hb hts in_X6_init_X6 tyX6 tyX6_ok nmX6 hown hK hP hD hS 0 rfl rfl 1 (by decide) (hts (.fieldLink RX6 15 "CallGraphs$Types" "supers" "[I") (List.mem_of_getElem? (i := 6) rfl)) (fun _ h9 => h9) rfl hin rfl (tyX6_ok 1 (by decide)) rfl rfl (Nat.le_of_ble_eq_true rfl) dX6_init_17 (fun H locs hP hD hS => ?_)
  have hP : va_P D vwCl [(h0, .inr (5, [.ref q1, .ref q2, .null, .null, .long 0, .int 0])), (q1, .inl (cI, 16, .inl (fun _ => 0))), (q2, .inl (cI, 16, .inl (fun _ => 0)))] H := hP
  have hD : va_D A [(h0, .inr (5, [.ref q1, .ref q2, .null, .null, .long 0, .int 0])), (q1, .inl (cI, 16, .inl (fun _ => 0))), (q2, .inl (cI, 16, .inl (fun _ => 0)))] := hD
  refine lv_aload_n hx hb dX6_init_20 rfl (lv_at hl 0 rfl) ?_
  refine lv_bipush (v := 16) hx hb dX6_init_21 (by decide) ?_
  refine va_newa (atype := .long) (n := 16) (N' := 16) (a0 := (16, .inr (.inl (fun _ => 0)))) (ty := .long) hx hb (hts (.arrayClass .long) (List.mem_of_getElem? (i := 7) rfl)) rfl hK hP hD hS hA (fun _ => rfl) (by decide) (by decide) (by decide) (Nat.le_of_ble_eq_true rfl) (Nat.le_of_ble_eq_true rfl) dX6_init_23 (fun q3 cA3 H hK1 hP hD hS => ?_)
  refine W.widen (k := 3) (n := 48) (Nat.le_of_ble_eq_true rfl) (Nat.le_of_ble_eq_true rfl) ?_
  have e3 : cA3 = cJ := Option.some.inj ((va_nm_long (hK1.2 3 _ rfl).2).symm.trans (va_nm_long (hK.2 1 _ rfl).2))
  rw [e3] at hP hD
  have hP : va_P D vwCl [(h0, .inr (5, [.ref q1, .ref q2, .null, .null, .long 0, .int 0])), (q1, .inl (cI, 16, .inl (fun _ => 0))), (q2, .inl (cI, 16, .inl (fun _ => 0))), (q3, .inl (cJ, 16, .inr (.inl (fun _ => 0))))] H := hP
  have hD : va_D A [(h0, .inr (5, [.ref q1, .ref q2, .null, .null, .long 0, .int 0])), (q1, .inl (cI, 16, .inl (fun _ => 0))), (q2, .inl (cI, 16, .inl (fun _ => 0))), (q3, .inl (cJ, 16, .inr (.inl (fun _ => 0))))] := hD
  refine va_putF (D := D) (ci := 5) (v := .ref q3) (ty := tyX6 2) (C := RX6) (T := TX6) (N := 6) hx hb hts in_X6_init_X6 tyX6 tyX6_ok nmX6 hown hK hP hD hS 0 rfl rfl 2 (by decide) (hts (.fieldLink RX6 18 "CallGraphs$Types" "faces" "[J") (List.mem_of_getElem? (i := 8) rfl)) (fun _ h9 => h9) rfl hin rfl (tyX6_ok 2 (by decide)) rfl rfl (Nat.le_of_ble_eq_true rfl) dX6_init_25 (fun H locs hP hD hS => ?_)
  have hP : va_P D vwCl [(h0, .inr (5, [.ref q1, .ref q2, .ref q3, .null, .long 0, .int 0])), (q1, .inl (cI, 16, .inl (fun _ => 0))), (q2, .inl (cI, 16, .inl (fun _ => 0))), (q3, .inl (cJ, 16, .inr (.inl (fun _ => 0))))] H := hP
  have hD : va_D A [(h0, .inr (5, [.ref q1, .ref q2, .ref q3, .null, .long 0, .int 0])), (q1, .inl (cI, 16, .inl (fun _ => 0))), (q2, .inl (cI, 16, .inl (fun _ => 0))), (q3, .inl (cJ, 16, .inr (.inl (fun _ => 0))))] := hD
  refine lv_aload_n hx hb dX6_init_28 rfl (lv_at hl 0 rfl) ?_
  refine lv_bipush (v := 16) hx hb dX6_init_29 (by decide) ?_
  refine va_newa (atype := .long) (n := 16) (N' := 16) (a0 := (16, .inr (.inl (fun _ => 0)))) (ty := .long) hx hb (hts (.arrayClass .long) (List.mem_of_getElem? (i := 7) rfl)) rfl hK hP hD hS hA (fun _ => rfl) (by decide) (by decide) (by decide) (Nat.le_of_ble_eq_true rfl) (Nat.le_of_ble_eq_true rfl) dX6_init_31 (fun q4 cA4 H hK1 hP hD hS => ?_)
  refine W.widen (k := 4) (n := 64) (Nat.le_of_ble_eq_true rfl) (Nat.le_of_ble_eq_true rfl) ?_
  have e4 : cA4 = cJ := Option.some.inj ((va_nm_long (hK1.2 3 _ rfl).2).symm.trans (va_nm_long (hK.2 1 _ rfl).2))
  rw [e4] at hP hD
  have hP : va_P D vwCl [(h0, .inr (5, [.ref q1, .ref q2, .ref q3, .null, .long 0, .int 0])), (q1, .inl (cI, 16, .inl (fun _ => 0))), (q2, .inl (cI, 16, .inl (fun _ => 0))), (q3, .inl (cJ, 16, .inr (.inl (fun _ => 0)))), (q4, .inl (cJ, 16, .inr (.inl (fun _ => 0))))] H := hP
  have hD : va_D A [(h0, .inr (5, [.ref q1, .ref q2, .ref q3, .null, .long 0, .int 0])), (q1, .inl (cI, 16, .inl (fun _ => 0))), (q2, .inl (cI, 16, .inl (fun _ => 0))), (q3, .inl (cJ, 16, .inr (.inl (fun _ => 0)))), (q4, .inl (cJ, 16, .inr (.inl (fun _ => 0))))] := hD
  refine va_putF (D := D) (ci := 5) (v := .ref q4) (ty := tyX6 3) (C := RX6) (T := TX6) (N := 6) hx hb hts in_X6_init_X6 tyX6 tyX6_ok nmX6 hown hK hP hD hS 0 rfl rfl 3 (by decide) (hts (.fieldLink RX6 22 "CallGraphs$Types" "above" "[J") (List.mem_of_getElem? (i := 9) rfl)) (fun _ h9 => h9) rfl hin rfl (tyX6_ok 3 (by decide)) rfl rfl (Nat.le_of_ble_eq_true rfl) dX6_init_33 (fun H locs hP hD hS => ?_)
  have hP : va_P D vwCl [(h0, .inr (5, [.ref q1, .ref q2, .ref q3, .ref q4, .long 0, .int 0])), (q1, .inl (cI, 16, .inl (fun _ => 0))), (q2, .inl (cI, 16, .inl (fun _ => 0))), (q3, .inl (cJ, 16, .inr (.inl (fun _ => 0)))), (q4, .inl (cJ, 16, .inr (.inl (fun _ => 0))))] H := hP
  have hD : va_D A [(h0, .inr (5, [.ref q1, .ref q2, .ref q3, .ref q4, .long 0, .int 0])), (q1, .inl (cI, 16, .inl (fun _ => 0))), (q2, .inl (cI, 16, .inl (fun _ => 0))), (q3, .inl (cJ, 16, .inr (.inl (fun _ => 0)))), (q4, .inl (cJ, 16, .inr (.inl (fun _ => 0))))] := hD
  exact W.vret hx hb hr (fun t ht hW => ⟨⟨(fun k => [q1, q2, q3, q4].getD k 0), rfl, trivial, by rw [ht]; exact hP, hD⟩, hS.F ht⟩) hS.2.2 dX6_init_36 hlocks
theorem in_X4_init_X4 : ∀ w ∈ u_ws RX4 TX4 11, w ∈ wsX4_init := fun w h => List.mem_cons_of_mem _ (List.mem_append_right _ h)
set_option maxHeartbeats 4000000 in
set_option maxRecDepth 100000 in
theorem c_X4_init (l : Launch) (D : va_G) (cI cJ cZ : ClassId) (h0 a1 sz : Nat) : Met l yX4_init wsX4_init ({ frames := 1, cells := 6, slots := 292, locals := 60 } : Room) (va_Pc [.ref h0, .ref a1] (fun U => U.heap.size = sz ∧ va_P D vwCl [(h0, .inr (3, [.null, .null, .null, .null, .null, .null, .null, .long 0, .long 0, .long 0, .int 0]))] U.heap ∧ va_K D vwCl (tyw cI cJ cZ) U ∧ va_D (fun _ => True) [(h0, .inr (3, [.null, .null, .null, .null, .null, .null, .null, .long 0, .long 0, .long 0, .int 0]))])) (va_Qv (fun _ : Nat → Nat => True) (fun u t => va_P D vwCl [(h0, .inr (3, [.ref a1, .ref (u 0), .ref (u 1), .ref (u 2), .ref (u 3), .ref (u 4), .ref (u 5), .long 0, .long 0, .long 0, .int 0])), ((u 0), .inl (cI, 48, .inl (fun _ => 0))), ((u 1), .inl (cI, 48, .inl (fun _ => 0))), ((u 2), .inl (cI, 160, .inl (fun j => if j < 160 then (-1) else (fun _ => 0) j))), ((u 3), .inl (cI, 16, .inl (fun j => if j < 16 then (-1) else (fun _ => 0) j))), ((u 4), .inl (cJ, 10, .inr (.inl (fun _ => 0)))), ((u 5), .inl (cJ, 10, .inr (.inl (fun _ => 0))))] t.heap ∧ va_D (va_A [(h0, .inr (3, [.null, .null, .null, .null, .null, .null, .null, .long 0, .long 0, .long 0, .int 0]))] sz) [(h0, .inr (3, [.ref a1, .ref (u 0), .ref (u 1), .ref (u 2), .ref (u 3), .ref (u 4), .ref (u 5), .long 0, .long 0, .long 0, .int 0])), ((u 0), .inl (cI, 48, .inl (fun _ => 0))), ((u 1), .inl (cI, 48, .inl (fun _ => 0))), ((u 2), .inl (cI, 160, .inl (fun j => if j < 160 then (-1) else (fun _ => 0) j))), ((u 3), .inl (cI, 16, .inl (fun j => if j < 16 then (-1) else (fun _ => 0) j))), ((u 4), .inl (cJ, 10, .inr (.inl (fun _ => 0)))), ((u 5), .inl (cJ, 10, .inr (.inl (fun _ => 0))))]) (va_A [(h0, .inr (3, [.null, .null, .null, .null, .null, .null, .null, .long 0, .long 0, .long 0, .int 0]))] sz)) 6 292 (va_A [(h0, .inr (3, [.null, .null, .null, .null, .null, .null, .null, .long 0, .long 0, .long 0, .int 0]))] sz) := by
  refine Met.ofW (cc := cX4_init) (maxL := 2) (ret := none) (by decide) rfl ?_
  intro p e s m args below meth c s₁ B hml hv
  obtain ⟨rfl, hsz, hP, hK, hD0⟩ := hv
  have hx := B.exec
  have hb := B.bytes
  have hr := B.returns
  have hts := atoms_spec (ws := wsX4_init) B.pre
  have hown : s.vm.findClass RX4 = some m.cls := findClass_of_methodNamed B.named
  have hlocks := B.notSynchronized
  have hin : meth.name = "<init>" := (name_of_methodNamed B.named B.method).1
  subst hsz
  have hD := hD0.self (sz := s.heap.size)
  generalize hAe : va_A [(h0, .inr (3, [.null, .null, .null, .null, .null, .null, .null, .long 0, .long 0, .long 0, .int 0]))] s.heap.size = A at hD ⊢
  have hA : ∀ q : Nat, s.heap.size ≤ q → A q := fun q h => by rw [← hAe]; exact Or.inr h
  have hS : va_S A s.heap s.heap [] := va_S.rf
  have hl := lv_entry ([.ref h0, .ref a1]) (n := 2) (Nat.le_of_ble_eq_true rfl)
  rw [lg_entry_eq]
  generalize (lg_sl ([.ref h0, .ref a1]) ++ List.replicate (2 - (lg_sl ([.ref h0, .ref a1])).length) Slot.unset).toArray = ls at hl ⊢
  have hl : lv_has ls 2 [(0, .ref h0), (1, .ref a1)] := hl
  refine lv_aload_n hx hb dX4_init_0 rfl (lv_at hl 0 rfl) ?_
  refine W.objInit hx hb hown (hts (.methodLink RX4 3 objectInit) (List.mem_of_getElem? (i := 1) rfl)) (hts (.instanceMethod objectInit) (List.mem_of_getElem? (i := 2) rfl)) (hts (.code objectInit ⟨#[0xb1]⟩ 1 none) (List.mem_of_getElem? (i := 3) rfl)) rfl (by rw [hml]; exact hl.1) rfl dX4_init_1 (Nat.le_of_ble_eq_true rfl) (Nat.le_of_ble_eq_true rfl) ?_
  refine W.eq (g2 := F0 m 4 ls []) rfl ?_
  refine lv_aload_n hx hb dX4_init_4 rfl (lv_at hl 0 rfl) ?_
  refine lv_bipush (v := 48) hx hb dX4_init_5 (by decide) ?_
  refine va_newa (atype := .int) (n := 48) (N' := 48) (a0 := (48, .inl (fun _ => 0))) (ty := .int) hx hb (hts (.arrayClass .int) (List.mem_of_getElem? (i := 4) rfl)) rfl hK hP hD hS hA (fun _ => rfl) (by decide) (by decide) (by decide) (Nat.le_of_ble_eq_true rfl) (Nat.le_of_ble_eq_true rfl) dX4_init_7 (fun q1 cA1 H hK1 hP hD hS => ?_)
  refine W.widen (k := 1) (n := 48) (Nat.le_of_ble_eq_true rfl) (Nat.le_of_ble_eq_true rfl) ?_
  have e1 : cA1 = cI := Option.some.inj ((va_nm_int (hK1.2 3 _ rfl).2).symm.trans (va_nm_int (hK.2 0 _ rfl).2))
  rw [e1] at hP hD
  have hP : va_P D vwCl [(h0, .inr (3, [.null, .null, .null, .null, .null, .null, .null, .long 0, .long 0, .long 0, .int 0])), (q1, .inl (cI, 48, .inl (fun _ => 0)))] H := hP
  have hD : va_D A [(h0, .inr (3, [.null, .null, .null, .null, .null, .null, .null, .long 0, .long 0, .long 0, .int 0])), (q1, .inl (cI, 48, .inl (fun _ => 0)))] := hD
  refine va_putF (D := D) (ci := 3) (v := .ref q1) (ty := tyX4 1) (C := RX4) (T := TX4) (N := 11) hx hb hts in_X4_init_X4 tyX4 tyX4_ok nmX4 hown hK hP hD hS 0 rfl rfl 1 (by decide) (hts (.fieldLink RX4 9 "CallGraphs$Members" "owners" "[I") (List.mem_of_getElem? (i := 5) rfl)) (fun _ h9 => h9) rfl hin rfl (tyX4_ok 1 (by decide)) rfl rfl (Nat.le_of_ble_eq_true rfl) dX4_init_9 (fun H locs hP hD hS => ?_)
  have hP : va_P D vwCl [(h0, .inr (3, [.null, .ref q1, .null, .null, .null, .null, .null, .long 0, .long 0, .long 0, .int 0])), (q1, .inl (cI, 48, .inl (fun _ => 0)))] H := hP
  have hD : va_D A [(h0, .inr (3, [.null, .ref q1, .null, .null, .null, .null, .null, .long 0, .long 0, .long 0, .int 0])), (q1, .inl (cI, 48, .inl (fun _ => 0)))] := hD
  refine lv_aload_n hx hb dX4_init_12 rfl (lv_at hl 0 rfl) ?_
  refine lv_bipush (v := 48) hx hb dX4_init_13 (by decide) ?_
  refine va_newa (atype := .int) (n := 48) (N' := 48) (a0 := (48, .inl (fun _ => 0))) (ty := .int) hx hb (hts (.arrayClass .int) (List.mem_of_getElem? (i := 4) rfl)) rfl hK hP hD hS hA (fun _ => rfl) (by decide) (by decide) (by decide) (Nat.le_of_ble_eq_true rfl) (Nat.le_of_ble_eq_true rfl) dX4_init_15 (fun q2 cA2 H hK1 hP hD hS => ?_)
  refine W.widen (k := 2) (n := 96) (Nat.le_of_ble_eq_true rfl) (Nat.le_of_ble_eq_true rfl) ?_
  have e2 : cA2 = cI := Option.some.inj ((va_nm_int (hK1.2 3 _ rfl).2).symm.trans (va_nm_int (hK.2 0 _ rfl).2))
  rw [e2] at hP hD
  have hP : va_P D vwCl [(h0, .inr (3, [.null, .ref q1, .null, .null, .null, .null, .null, .long 0, .long 0, .long 0, .int 0])), (q1, .inl (cI, 48, .inl (fun _ => 0))), (q2, .inl (cI, 48, .inl (fun _ => 0)))] H := hP
  have hD : va_D A [(h0, .inr (3, [.null, .ref q1, .null, .null, .null, .null, .null, .long 0, .long 0, .long 0, .int 0])), (q1, .inl (cI, 48, .inl (fun _ => 0))), (q2, .inl (cI, 48, .inl (fun _ => 0)))] := hD
  refine va_putF (D := D) (ci := 3) (v := .ref q2) (ty := tyX4 2) (C := RX4) (T := TX4) (N := 11) hx hb hts in_X4_init_X4 tyX4 tyX4_ok nmX4 hown hK hP hD hS 0 rfl rfl 2 (by decide) (hts (.fieldLink RX4 15 "CallGraphs$Members" "sorts" "[I") (List.mem_of_getElem? (i := 6) rfl)) (fun _ h9 => h9) rfl hin rfl (tyX4_ok 2 (by decide)) rfl rfl (Nat.le_of_ble_eq_true rfl) dX4_init_17 (fun H locs hP hD hS => ?_)
  have hP : va_P D vwCl [(h0, .inr (3, [.null, .ref q1, .ref q2, .null, .null, .null, .null, .long 0, .long 0, .long 0, .int 0])), (q1, .inl (cI, 48, .inl (fun _ => 0))), (q2, .inl (cI, 48, .inl (fun _ => 0)))] H := hP
  have hD : va_D A [(h0, .inr (3, [.null, .ref q1, .ref q2, .null, .null, .null, .null, .long 0, .long 0, .long 0, .int 0])), (q1, .inl (cI, 48, .inl (fun _ => 0))), (q2, .inl (cI, 48, .inl (fun _ => 0)))] := hD
  refine lv_aload_n hx hb dX4_init_20 rfl (lv_at hl 0 rfl) ?_
  refine lv_sipush (v := 160) hx hb dX4_init_21 (by decide) ?_
  refine va_newa (atype := .int) (n := 160) (N' := 160) (a0 := (160, .inl (fun _ => 0))) (ty := .int) hx hb (hts (.arrayClass .int) (List.mem_of_getElem? (i := 4) rfl)) rfl hK hP hD hS hA (fun _ => rfl) (by decide) (by decide) (by decide) (Nat.le_of_ble_eq_true rfl) (Nat.le_of_ble_eq_true rfl) dX4_init_24 (fun q3 cA3 H hK1 hP hD hS => ?_)
  refine W.widen (k := 3) (n := 256) (Nat.le_of_ble_eq_true rfl) (Nat.le_of_ble_eq_true rfl) ?_
  have e3 : cA3 = cI := Option.some.inj ((va_nm_int (hK1.2 3 _ rfl).2).symm.trans (va_nm_int (hK.2 0 _ rfl).2))
  rw [e3] at hP hD
  have hP : va_P D vwCl [(h0, .inr (3, [.null, .ref q1, .ref q2, .null, .null, .null, .null, .long 0, .long 0, .long 0, .int 0])), (q1, .inl (cI, 48, .inl (fun _ => 0))), (q2, .inl (cI, 48, .inl (fun _ => 0))), (q3, .inl (cI, 160, .inl (fun _ => 0)))] H := hP
  have hD : va_D A [(h0, .inr (3, [.null, .ref q1, .ref q2, .null, .null, .null, .null, .long 0, .long 0, .long 0, .int 0])), (q1, .inl (cI, 48, .inl (fun _ => 0))), (q2, .inl (cI, 48, .inl (fun _ => 0))), (q3, .inl (cI, 160, .inl (fun _ => 0)))] := hD
  refine va_putF (D := D) (ci := 3) (v := .ref q3) (ty := tyX4 3) (C := RX4) (T := TX4) (N := 11) hx hb hts in_X4_init_X4 tyX4 tyX4_ok nmX4 hown hK hP hD hS 0 rfl rfl 3 (by decide) (hts (.fieldLink RX4 18 "CallGraphs$Members" "byName" "[I") (List.mem_of_getElem? (i := 7) rfl)) (fun _ h9 => h9) rfl hin rfl (tyX4_ok 3 (by decide)) rfl rfl (Nat.le_of_ble_eq_true rfl) dX4_init_26 (fun H locs hP hD hS => ?_)
  have hP : va_P D vwCl [(h0, .inr (3, [.null, .ref q1, .ref q2, .ref q3, .null, .null, .null, .long 0, .long 0, .long 0, .int 0])), (q1, .inl (cI, 48, .inl (fun _ => 0))), (q2, .inl (cI, 48, .inl (fun _ => 0))), (q3, .inl (cI, 160, .inl (fun _ => 0)))] H := hP
  have hD : va_D A [(h0, .inr (3, [.null, .ref q1, .ref q2, .ref q3, .null, .null, .null, .long 0, .long 0, .long 0, .int 0])), (q1, .inl (cI, 48, .inl (fun _ => 0))), (q2, .inl (cI, 48, .inl (fun _ => 0))), (q3, .inl (cI, 160, .inl (fun _ => 0)))] := hD
  refine lv_aload_n hx hb dX4_init_29 rfl (lv_at hl 0 rfl) ?_
  refine lv_bipush (v := 16) hx hb dX4_init_30 (by decide) ?_
  refine va_newa (atype := .int) (n := 16) (N' := 16) (a0 := (16, .inl (fun _ => 0))) (ty := .int) hx hb (hts (.arrayClass .int) (List.mem_of_getElem? (i := 4) rfl)) rfl hK hP hD hS hA (fun _ => rfl) (by decide) (by decide) (by decide) (Nat.le_of_ble_eq_true rfl) (Nat.le_of_ble_eq_true rfl) dX4_init_32 (fun q4 cA4 H hK1 hP hD hS => ?_)
  refine W.widen (k := 4) (n := 272) (Nat.le_of_ble_eq_true rfl) (Nat.le_of_ble_eq_true rfl) ?_
  have e4 : cA4 = cI := Option.some.inj ((va_nm_int (hK1.2 3 _ rfl).2).symm.trans (va_nm_int (hK.2 0 _ rfl).2))
  rw [e4] at hP hD
  have hP : va_P D vwCl [(h0, .inr (3, [.null, .ref q1, .ref q2, .ref q3, .null, .null, .null, .long 0, .long 0, .long 0, .int 0])), (q1, .inl (cI, 48, .inl (fun _ => 0))), (q2, .inl (cI, 48, .inl (fun _ => 0))), (q3, .inl (cI, 160, .inl (fun _ => 0))), (q4, .inl (cI, 16, .inl (fun _ => 0)))] H := hP
  have hD : va_D A [(h0, .inr (3, [.null, .ref q1, .ref q2, .ref q3, .null, .null, .null, .long 0, .long 0, .long 0, .int 0])), (q1, .inl (cI, 48, .inl (fun _ => 0))), (q2, .inl (cI, 48, .inl (fun _ => 0))), (q3, .inl (cI, 160, .inl (fun _ => 0))), (q4, .inl (cI, 16, .inl (fun _ => 0)))] := hD
  refine va_putF (D := D) (ci := 3) (v := .ref q4) (ty := tyX4 4) (C := RX4) (T := TX4) (N := 11) hx hb hts in_X4_init_X4 tyX4 tyX4_ok nmX4 hown hK hP hD hS 0 rfl rfl 4 (by decide) (hts (.fieldLink RX4 21 "CallGraphs$Members" "starts" "[I") (List.mem_of_getElem? (i := 8) rfl)) (fun _ h9 => h9) rfl hin rfl (tyX4_ok 4 (by decide)) rfl rfl (Nat.le_of_ble_eq_true rfl) dX4_init_34 (fun H locs hP hD hS => ?_)
  have hP : va_P D vwCl [(h0, .inr (3, [.null, .ref q1, .ref q2, .ref q3, .ref q4, .null, .null, .long 0, .long 0, .long 0, .int 0])), (q1, .inl (cI, 48, .inl (fun _ => 0))), (q2, .inl (cI, 48, .inl (fun _ => 0))), (q3, .inl (cI, 160, .inl (fun _ => 0))), (q4, .inl (cI, 16, .inl (fun _ => 0)))] H := hP
  have hD : va_D A [(h0, .inr (3, [.null, .ref q1, .ref q2, .ref q3, .ref q4, .null, .null, .long 0, .long 0, .long 0, .int 0])), (q1, .inl (cI, 48, .inl (fun _ => 0))), (q2, .inl (cI, 48, .inl (fun _ => 0))), (q3, .inl (cI, 160, .inl (fun _ => 0))), (q4, .inl (cI, 16, .inl (fun _ => 0)))] := hD
  refine lv_aload_n hx hb dX4_init_37 rfl (lv_at hl 0 rfl) ?_
  refine lv_bipush (v := 10) hx hb dX4_init_38 (by decide) ?_
  refine va_newa (atype := .long) (n := 10) (N' := 10) (a0 := (10, .inr (.inl (fun _ => 0)))) (ty := .long) hx hb (hts (.arrayClass .long) (List.mem_of_getElem? (i := 9) rfl)) rfl hK hP hD hS hA (fun _ => rfl) (by decide) (by decide) (by decide) (Nat.le_of_ble_eq_true rfl) (Nat.le_of_ble_eq_true rfl) dX4_init_40 (fun q5 cA5 H hK1 hP hD hS => ?_)
  refine W.widen (k := 5) (n := 282) (Nat.le_of_ble_eq_true rfl) (Nat.le_of_ble_eq_true rfl) ?_
  have e5 : cA5 = cJ := Option.some.inj ((va_nm_long (hK1.2 3 _ rfl).2).symm.trans (va_nm_long (hK.2 1 _ rfl).2))
  rw [e5] at hP hD
  have hP : va_P D vwCl [(h0, .inr (3, [.null, .ref q1, .ref q2, .ref q3, .ref q4, .null, .null, .long 0, .long 0, .long 0, .int 0])), (q1, .inl (cI, 48, .inl (fun _ => 0))), (q2, .inl (cI, 48, .inl (fun _ => 0))), (q3, .inl (cI, 160, .inl (fun _ => 0))), (q4, .inl (cI, 16, .inl (fun _ => 0))), (q5, .inl (cJ, 10, .inr (.inl (fun _ => 0))))] H := hP
  have hD : va_D A [(h0, .inr (3, [.null, .ref q1, .ref q2, .ref q3, .ref q4, .null, .null, .long 0, .long 0, .long 0, .int 0])), (q1, .inl (cI, 48, .inl (fun _ => 0))), (q2, .inl (cI, 48, .inl (fun _ => 0))), (q3, .inl (cI, 160, .inl (fun _ => 0))), (q4, .inl (cI, 16, .inl (fun _ => 0))), (q5, .inl (cJ, 10, .inr (.inl (fun _ => 0))))] := hD
  refine va_putF (D := D) (ci := 3) (v := .ref q5) (ty := tyX4 5) (C := RX4) (T := TX4) (N := 11) hx hb hts in_X4_init_X4 tyX4 tyX4_ok nmX4 hown hK hP hD hS 0 rfl rfl 5 (by decide) (hts (.fieldLink RX4 24 "CallGraphs$Members" "handles" "[J") (List.mem_of_getElem? (i := 10) rfl)) (fun _ h9 => h9) rfl hin rfl (tyX4_ok 5 (by decide)) rfl rfl (Nat.le_of_ble_eq_true rfl) dX4_init_42 (fun H locs hP hD hS => ?_)
  have hP : va_P D vwCl [(h0, .inr (3, [.null, .ref q1, .ref q2, .ref q3, .ref q4, .ref q5, .null, .long 0, .long 0, .long 0, .int 0])), (q1, .inl (cI, 48, .inl (fun _ => 0))), (q2, .inl (cI, 48, .inl (fun _ => 0))), (q3, .inl (cI, 160, .inl (fun _ => 0))), (q4, .inl (cI, 16, .inl (fun _ => 0))), (q5, .inl (cJ, 10, .inr (.inl (fun _ => 0))))] H := hP
  have hD : va_D A [(h0, .inr (3, [.null, .ref q1, .ref q2, .ref q3, .ref q4, .ref q5, .null, .long 0, .long 0, .long 0, .int 0])), (q1, .inl (cI, 48, .inl (fun _ => 0))), (q2, .inl (cI, 48, .inl (fun _ => 0))), (q3, .inl (cI, 160, .inl (fun _ => 0))), (q4, .inl (cI, 16, .inl (fun _ => 0))), (q5, .inl (cJ, 10, .inr (.inl (fun _ => 0))))] := hD
  refine lv_aload_n hx hb dX4_init_45 rfl (lv_at hl 0 rfl) ?_
  refine lv_bipush (v := 10) hx hb dX4_init_46 (by decide) ?_
  refine va_newa (atype := .long) (n := 10) (N' := 10) (a0 := (10, .inr (.inl (fun _ => 0)))) (ty := .long) hx hb (hts (.arrayClass .long) (List.mem_of_getElem? (i := 9) rfl)) rfl hK hP hD hS hA (fun _ => rfl) (by decide) (by decide) (by decide) (Nat.le_of_ble_eq_true rfl) (Nat.le_of_ble_eq_true rfl) dX4_init_48 (fun q6 cA6 H hK1 hP hD hS => ?_)
  refine W.widen (k := 6) (n := 292) (Nat.le_of_ble_eq_true rfl) (Nat.le_of_ble_eq_true rfl) ?_
  have e6 : cA6 = cJ := Option.some.inj ((va_nm_long (hK1.2 3 _ rfl).2).symm.trans (va_nm_long (hK.2 1 _ rfl).2))
  rw [e6] at hP hD
  have hP : va_P D vwCl [(h0, .inr (3, [.null, .ref q1, .ref q2, .ref q3, .ref q4, .ref q5, .null, .long 0, .long 0, .long 0, .int 0])), (q1, .inl (cI, 48, .inl (fun _ => 0))), (q2, .inl (cI, 48, .inl (fun _ => 0))), (q3, .inl (cI, 160, .inl (fun _ => 0))), (q4, .inl (cI, 16, .inl (fun _ => 0))), (q5, .inl (cJ, 10, .inr (.inl (fun _ => 0)))), (q6, .inl (cJ, 10, .inr (.inl (fun _ => 0))))] H := hP
  have hD : va_D A [(h0, .inr (3, [.null, .ref q1, .ref q2, .ref q3, .ref q4, .ref q5, .null, .long 0, .long 0, .long 0, .int 0])), (q1, .inl (cI, 48, .inl (fun _ => 0))), (q2, .inl (cI, 48, .inl (fun _ => 0))), (q3, .inl (cI, 160, .inl (fun _ => 0))), (q4, .inl (cI, 16, .inl (fun _ => 0))), (q5, .inl (cJ, 10, .inr (.inl (fun _ => 0)))), (q6, .inl (cJ, 10, .inr (.inl (fun _ => 0))))] := hD
  refine va_putF (D := D) (ci := 3) (v := .ref q6) (ty := tyX4 6) (C := RX4) (T := TX4) (N := 11) hx hb hts in_X4_init_X4 tyX4 tyX4_ok nmX4 hown hK hP hD hS 0 rfl rfl 6 (by decide) (hts (.fieldLink RX4 28 "CallGraphs$Members" "passers" "[J") (List.mem_of_getElem? (i := 11) rfl)) (fun _ h9 => h9) rfl hin rfl (tyX4_ok 6 (by decide)) rfl rfl (Nat.le_of_ble_eq_true rfl) dX4_init_50 (fun H locs hP hD hS => ?_)
  have hP : va_P D vwCl [(h0, .inr (3, [.null, .ref q1, .ref q2, .ref q3, .ref q4, .ref q5, .ref q6, .long 0, .long 0, .long 0, .int 0])), (q1, .inl (cI, 48, .inl (fun _ => 0))), (q2, .inl (cI, 48, .inl (fun _ => 0))), (q3, .inl (cI, 160, .inl (fun _ => 0))), (q4, .inl (cI, 16, .inl (fun _ => 0))), (q5, .inl (cJ, 10, .inr (.inl (fun _ => 0)))), (q6, .inl (cJ, 10, .inr (.inl (fun _ => 0))))] H := hP
  have hD : va_D A [(h0, .inr (3, [.null, .ref q1, .ref q2, .ref q3, .ref q4, .ref q5, .ref q6, .long 0, .long 0, .long 0, .int 0])), (q1, .inl (cI, 48, .inl (fun _ => 0))), (q2, .inl (cI, 48, .inl (fun _ => 0))), (q3, .inl (cI, 160, .inl (fun _ => 0))), (q4, .inl (cI, 16, .inl (fun _ => 0))), (q5, .inl (cJ, 10, .inr (.inl (fun _ => 0)))), (q6, .inl (cJ, 10, .inr (.inl (fun _ => 0))))] := hD
  refine lv_aload_n hx hb dX4_init_53 rfl (lv_at hl 0 rfl) ?_
  refine lv_aload_n hx hb dX4_init_54 rfl (lv_at hl 1 rfl) ?_
  refine va_putF (D := D) (ci := 3) (v := .ref a1) (ty := tyX4 0) (C := RX4) (T := TX4) (N := 11) hx hb hts in_X4_init_X4 tyX4 tyX4_ok nmX4 hown hK hP hD hS 0 rfl rfl 0 (by decide) (hts (.fieldLink RX4 31 "CallGraphs$Members" "types" "LCallGraphs$Types;") (List.mem_of_getElem? (i := 12) rfl)) (fun _ h9 => h9) rfl hin rfl (tyX4_ok 0 (by decide)) rfl rfl (Nat.le_of_ble_eq_true rfl) dX4_init_55 (fun H locs hP hD hS => ?_)
  have hP : va_P D vwCl [(h0, .inr (3, [.ref a1, .ref q1, .ref q2, .ref q3, .ref q4, .ref q5, .ref q6, .long 0, .long 0, .long 0, .int 0])), (q1, .inl (cI, 48, .inl (fun _ => 0))), (q2, .inl (cI, 48, .inl (fun _ => 0))), (q3, .inl (cI, 160, .inl (fun _ => 0))), (q4, .inl (cI, 16, .inl (fun _ => 0))), (q5, .inl (cJ, 10, .inr (.inl (fun _ => 0)))), (q6, .inl (cJ, 10, .inr (.inl (fun _ => 0))))] H := hP
  have hD : va_D A [(h0, .inr (3, [.ref a1, .ref q1, .ref q2, .ref q3, .ref q4, .ref q5, .ref q6, .long 0, .long 0, .long 0, .int 0])), (q1, .inl (cI, 48, .inl (fun _ => 0))), (q2, .inl (cI, 48, .inl (fun _ => 0))), (q3, .inl (cI, 160, .inl (fun _ => 0))), (q4, .inl (cI, 16, .inl (fun _ => 0))), (q5, .inl (cJ, 10, .inr (.inl (fun _ => 0)))), (q6, .inl (cJ, 10, .inr (.inl (fun _ => 0))))] := hD
  refine lv_aload_n hx hb dX4_init_58 rfl (lv_at hl 0 rfl) ?_
  refine va_get (D := D) (ci := 3) (v := .ref q3) (C := RX4) (T := TX4) (N := 11) hx hb hts in_X4_init_X4 hown hK hP 0 rfl rfl 3 (by decide) (hts (.fieldLink RX4 18 "CallGraphs$Members" "byName" "[I") (List.mem_of_getElem? (i := 7) rfl)) (fun _ h9 => h9) rfl dX4_init_59 ?_
  refine lv_iconst (v := (-1)) hx hb dX4_init_62 (by decide) ?_
  refine mF (ws := [(h0, .inr (3, [.ref a1, .ref q1, .ref q2, .ref q3, .ref q4, .ref q5, .ref q6, .long 0, .long 0, .long 0, .int 0])), (q1, .inl (cI, 48, .inl (fun _ => 0))), (q2, .inl (cI, 48, .inl (fun _ => 0))), (q3, .inl (cI, 160, .inl (fun _ => 0))), (q4, .inl (cI, 16, .inl (fun _ => 0))), (q5, .inl (cJ, 10, .inr (.inl (fun _ => 0)))), (q6, .inl (cJ, 10, .inr (.inl (fun _ => 0))))]) (ws' := [(h0, .inr (3, [.ref a1, .ref q1, .ref q2, .ref q3, .ref q4, .ref q5, .ref q6, .long 0, .long 0, .long 0, .int 0])), (q1, .inl (cI, 48, .inl (fun _ => 0))), (q2, .inl (cI, 48, .inl (fun _ => 0))), (q3, .inl (cI, 160, .inl (fun j => if j < 160 then (-1) else (fun _ => 0) j))), (q4, .inl (cI, 16, .inl (fun _ => 0))), (q5, .inl (cJ, 10, .inr (.inl (fun _ => 0)))), (q6, .inl (cJ, 10, .inr (.inl (fun _ => 0))))]) (As := [.ref q3, .int (-1)]) (rest := []) ⟨hx, hb, hml, hown, hts⟩ hK hP hD hS (q0 := 3) rfl rfl (c_fillI l D q3 cI (Nat.le_of_ble_eq_true rfl) _ (-1)) 0 rfl (va_cwS 2 hts gX4_init_J7_fill_53178 rfl rfl rfl hd_J7_fill_53178 ⟨Nat.le_of_ble_eq_true rfl, Nat.le_of_ble_eq_true rfl⟩) rfl hl.1 rfl (Nat.le_of_ble_eq_true rfl) dX4_init_63 ⟨Nat.le_of_ble_eq_true rfl, Nat.le_of_ble_eq_true rfl⟩ (fun H locs hP hS => ?_)
  have hD : va_D A [(h0, .inr (3, [.ref a1, .ref q1, .ref q2, .ref q3, .ref q4, .ref q5, .ref q6, .long 0, .long 0, .long 0, .int 0])), (q1, .inl (cI, 48, .inl (fun _ => 0))), (q2, .inl (cI, 48, .inl (fun _ => 0))), (q3, .inl (cI, 160, .inl (fun j => if j < 160 then (-1) else (fun _ => 0) j))), (q4, .inl (cI, 16, .inl (fun _ => 0))), (q5, .inl (cJ, 10, .inr (.inl (fun _ => 0)))), (q6, .inl (cJ, 10, .inr (.inl (fun _ => 0))))] := va_D_same hD rfl
  refine lv_aload_n hx hb dX4_init_66 rfl (lv_at hl 0 rfl) ?_
  refine va_get (D := D) (ci := 3) (v := .ref q4) (C := RX4) (T := TX4) (N := 11) hx hb hts in_X4_init_X4 hown hK hP 0 rfl rfl 4 (by decide) (hts (.fieldLink RX4 21 "CallGraphs$Members" "starts" "[I") (List.mem_of_getElem? (i := 8) rfl)) (fun _ h9 => h9) rfl dX4_init_67 ?_
  refine lv_iconst (v := (-1)) hx hb dX4_init_70 (by decide) ?_
  refine mF (ws := [(h0, .inr (3, [.ref a1, .ref q1, .ref q2, .ref q3, .ref q4, .ref q5, .ref q6, .long 0, .long 0, .long 0, .int 0])), (q1, .inl (cI, 48, .inl (fun _ => 0))), (q2, .inl (cI, 48, .inl (fun _ => 0))), (q3, .inl (cI, 160, .inl (fun j => if j < 160 then (-1) else (fun _ => 0) j))), (q4, .inl (cI, 16, .inl (fun _ => 0))), (q5, .inl (cJ, 10, .inr (.inl (fun _ => 0)))), (q6, .inl (cJ, 10, .inr (.inl (fun _ => 0))))]) (ws' := [(h0, .inr (3, [.ref a1, .ref q1, .ref q2, .ref q3, .ref q4, .ref q5, .ref q6, .long 0, .long 0, .long 0, .int 0])), (q1, .inl (cI, 48, .inl (fun _ => 0))), (q2, .inl (cI, 48, .inl (fun _ => 0))), (q3, .inl (cI, 160, .inl (fun j => if j < 160 then (-1) else (fun _ => 0) j))), (q4, .inl (cI, 16, .inl (fun j => if j < 16 then (-1) else (fun _ => 0) j))), (q5, .inl (cJ, 10, .inr (.inl (fun _ => 0)))), (q6, .inl (cJ, 10, .inr (.inl (fun _ => 0))))]) (As := [.ref q4, .int (-1)]) (rest := []) ⟨hx, hb, hml, hown, hts⟩ hK hP hD hS (q0 := 4) rfl rfl (c_fillI l D q4 cI (Nat.le_of_ble_eq_true rfl) _ (-1)) 0 rfl (va_cwS 2 hts gX4_init_J7_fill_53178 rfl rfl rfl hd_J7_fill_53178 ⟨Nat.le_of_ble_eq_true rfl, Nat.le_of_ble_eq_true rfl⟩) rfl hl.1 rfl (Nat.le_of_ble_eq_true rfl) dX4_init_71 ⟨Nat.le_of_ble_eq_true rfl, Nat.le_of_ble_eq_true rfl⟩ (fun H locs hP hS => ?_)
  have hD : va_D A [(h0, .inr (3, [.ref a1, .ref q1, .ref q2, .ref q3, .ref q4, .ref q5, .ref q6, .long 0, .long 0, .long 0, .int 0])), (q1, .inl (cI, 48, .inl (fun _ => 0))), (q2, .inl (cI, 48, .inl (fun _ => 0))), (q3, .inl (cI, 160, .inl (fun j => if j < 160 then (-1) else (fun _ => 0) j))), (q4, .inl (cI, 16, .inl (fun j => if j < 16 then (-1) else (fun _ => 0) j))), (q5, .inl (cJ, 10, .inr (.inl (fun _ => 0)))), (q6, .inl (cJ, 10, .inr (.inl (fun _ => 0))))] := va_D_same hD rfl
  exact W.vret hx hb hr (fun t ht hW => ⟨⟨(fun k => [q1, q2, q3, q4, q5, q6].getD k 0), rfl, trivial, by rw [ht]; exact hP, hD⟩, hS.F ht⟩) hS.2.2 dX4_init_74 hlocks
theorem in_X1_init_X1 : ∀ w ∈ u_ws RX1 TX1 4, w ∈ wsX1_init := fun w h => List.mem_cons_of_mem _ (List.mem_append_right _ h)
set_option maxHeartbeats 4000000 in
set_option maxRecDepth 100000 in
theorem c_X1_init (l : Launch) (D : va_G) (cI cJ cZ : ClassId) (h0 a1 a2 sz : Nat) : Met l yX1_init wsX1_init ({ frames := 1, cells := 2, slots := 320, locals := 60 } : Room) (va_Pc [.ref h0, .ref a1, .ref a2] (fun U => U.heap.size = sz ∧ va_P D vwCl [(h0, .inr (0, [.null, .null, .null, .null]))] U.heap ∧ va_K D vwCl (tyw cI cJ cZ) U ∧ va_D (fun _ => True) [(h0, .inr (0, [.null, .null, .null, .null]))])) (va_Qv (fun _ : Nat → Nat => True) (fun u t => va_P D vwCl [(h0, .inr (0, [.ref a1, .ref a2, .ref (u 0), .ref (u 1)])), ((u 0), .inl (cI, 160, .inl (fun _ => 0))), ((u 1), .inl (cI, 160, .inl (fun _ => 0)))] t.heap ∧ va_D (va_A [(h0, .inr (0, [.null, .null, .null, .null]))] sz) [(h0, .inr (0, [.ref a1, .ref a2, .ref (u 0), .ref (u 1)])), ((u 0), .inl (cI, 160, .inl (fun _ => 0))), ((u 1), .inl (cI, 160, .inl (fun _ => 0)))]) (va_A [(h0, .inr (0, [.null, .null, .null, .null]))] sz)) 2 320 (va_A [(h0, .inr (0, [.null, .null, .null, .null]))] sz) := by
  refine Met.ofW (cc := cX1_init) (maxL := 3) (ret := none) (by decide) rfl ?_
  intro p e s m args below meth c s₁ B hml hv
  obtain ⟨rfl, hsz, hP, hK, hD0⟩ := hv
  have hx := B.exec
  have hb := B.bytes
  have hr := B.returns
  have hts := atoms_spec (ws := wsX1_init) B.pre
  have hown : s.vm.findClass RX1 = some m.cls := findClass_of_methodNamed B.named
  have hlocks := B.notSynchronized
  have hin : meth.name = "<init>" := (name_of_methodNamed B.named B.method).1
  subst hsz
  have hD := hD0.self (sz := s.heap.size)
  generalize hAe : va_A [(h0, .inr (0, [.null, .null, .null, .null]))] s.heap.size = A at hD ⊢
  have hA : ∀ q : Nat, s.heap.size ≤ q → A q := fun q h => by rw [← hAe]; exact Or.inr h
  have hS : va_S A s.heap s.heap [] := va_S.rf
  have hl := lv_entry ([.ref h0, .ref a1, .ref a2]) (n := 3) (Nat.le_of_ble_eq_true rfl)
  rw [lg_entry_eq]
  generalize (lg_sl ([.ref h0, .ref a1, .ref a2]) ++ List.replicate (3 - (lg_sl ([.ref h0, .ref a1, .ref a2])).length) Slot.unset).toArray = ls at hl ⊢
  have hl : lv_has ls 3 [(0, .ref h0), (1, .ref a1), (2, .ref a2)] := hl
  refine lv_aload_n hx hb dX1_init_0 rfl (lv_at hl 0 rfl) ?_
  refine W.objInit hx hb hown (hts (.methodLink RX1 3 objectInit) (List.mem_of_getElem? (i := 1) rfl)) (hts (.instanceMethod objectInit) (List.mem_of_getElem? (i := 2) rfl)) (hts (.code objectInit ⟨#[0xb1]⟩ 1 none) (List.mem_of_getElem? (i := 3) rfl)) rfl (by rw [hml]; exact hl.1) rfl dX1_init_1 (Nat.le_of_ble_eq_true rfl) (Nat.le_of_ble_eq_true rfl) ?_
  refine W.eq (g2 := F0 m 4 ls []) rfl ?_
  refine lv_aload_n hx hb dX1_init_4 rfl (lv_at hl 0 rfl) ?_
  refine lv_sipush (v := 160) hx hb dX1_init_5 (by decide) ?_
  refine va_newa (atype := .int) (n := 160) (N' := 160) (a0 := (160, .inl (fun _ => 0))) (ty := .int) hx hb (hts (.arrayClass .int) (List.mem_of_getElem? (i := 4) rfl)) rfl hK hP hD hS hA (fun _ => rfl) (by decide) (by decide) (by decide) (Nat.le_of_ble_eq_true rfl) (Nat.le_of_ble_eq_true rfl) dX1_init_8 (fun q1 cA1 H hK1 hP hD hS => ?_)
  refine W.widen (k := 1) (n := 160) (Nat.le_of_ble_eq_true rfl) (Nat.le_of_ble_eq_true rfl) ?_
  have e1 : cA1 = cI := Option.some.inj ((va_nm_int (hK1.2 3 _ rfl).2).symm.trans (va_nm_int (hK.2 0 _ rfl).2))
  rw [e1] at hP hD
  have hP : va_P D vwCl [(h0, .inr (0, [.null, .null, .null, .null])), (q1, .inl (cI, 160, .inl (fun _ => 0)))] H := hP
  have hD : va_D A [(h0, .inr (0, [.null, .null, .null, .null])), (q1, .inl (cI, 160, .inl (fun _ => 0)))] := hD
  refine va_putF (D := D) (ci := 0) (v := .ref q1) (ty := tyX1 2) (C := RX1) (T := TX1) (N := 4) hx hb hts in_X1_init_X1 tyX1 tyX1_ok nmX1 hown hK hP hD hS 0 rfl rfl 2 (by decide) (hts (.fieldLink RX1 9 "CallGraphs$Choices" "finds" "[I") (List.mem_of_getElem? (i := 5) rfl)) (fun _ h9 => h9) rfl hin rfl (tyX1_ok 2 (by decide)) rfl rfl (Nat.le_of_ble_eq_true rfl) dX1_init_10 (fun H locs hP hD hS => ?_)
  have hP : va_P D vwCl [(h0, .inr (0, [.null, .null, .ref q1, .null])), (q1, .inl (cI, 160, .inl (fun _ => 0)))] H := hP
  have hD : va_D A [(h0, .inr (0, [.null, .null, .ref q1, .null])), (q1, .inl (cI, 160, .inl (fun _ => 0)))] := hD
  refine lv_aload_n hx hb dX1_init_13 rfl (lv_at hl 0 rfl) ?_
  refine lv_sipush (v := 160) hx hb dX1_init_14 (by decide) ?_
  refine va_newa (atype := .int) (n := 160) (N' := 160) (a0 := (160, .inl (fun _ => 0))) (ty := .int) hx hb (hts (.arrayClass .int) (List.mem_of_getElem? (i := 4) rfl)) rfl hK hP hD hS hA (fun _ => rfl) (by decide) (by decide) (by decide) (Nat.le_of_ble_eq_true rfl) (Nat.le_of_ble_eq_true rfl) dX1_init_17 (fun q2 cA2 H hK1 hP hD hS => ?_)
  refine W.widen (k := 2) (n := 320) (Nat.le_of_ble_eq_true rfl) (Nat.le_of_ble_eq_true rfl) ?_
  have e2 : cA2 = cI := Option.some.inj ((va_nm_int (hK1.2 3 _ rfl).2).symm.trans (va_nm_int (hK.2 0 _ rfl).2))
  rw [e2] at hP hD
  have hP : va_P D vwCl [(h0, .inr (0, [.null, .null, .ref q1, .null])), (q1, .inl (cI, 160, .inl (fun _ => 0))), (q2, .inl (cI, 160, .inl (fun _ => 0)))] H := hP
  have hD : va_D A [(h0, .inr (0, [.null, .null, .ref q1, .null])), (q1, .inl (cI, 160, .inl (fun _ => 0))), (q2, .inl (cI, 160, .inl (fun _ => 0)))] := hD
  refine va_putF (D := D) (ci := 0) (v := .ref q2) (ty := tyX1 3) (C := RX1) (T := TX1) (N := 4) hx hb hts in_X1_init_X1 tyX1 tyX1_ok nmX1 hown hK hP hD hS 0 rfl rfl 3 (by decide) (hts (.fieldLink RX1 15 "CallGraphs$Choices" "picks" "[I") (List.mem_of_getElem? (i := 6) rfl)) (fun _ h9 => h9) rfl hin rfl (tyX1_ok 3 (by decide)) rfl rfl (Nat.le_of_ble_eq_true rfl) dX1_init_19 (fun H locs hP hD hS => ?_)
  have hP : va_P D vwCl [(h0, .inr (0, [.null, .null, .ref q1, .ref q2])), (q1, .inl (cI, 160, .inl (fun _ => 0))), (q2, .inl (cI, 160, .inl (fun _ => 0)))] H := hP
  have hD : va_D A [(h0, .inr (0, [.null, .null, .ref q1, .ref q2])), (q1, .inl (cI, 160, .inl (fun _ => 0))), (q2, .inl (cI, 160, .inl (fun _ => 0)))] := hD
  refine lv_aload_n hx hb dX1_init_22 rfl (lv_at hl 0 rfl) ?_
  refine lv_aload_n hx hb dX1_init_23 rfl (lv_at hl 1 rfl) ?_
  refine va_putF (D := D) (ci := 0) (v := .ref a1) (ty := tyX1 0) (C := RX1) (T := TX1) (N := 4) hx hb hts in_X1_init_X1 tyX1 tyX1_ok nmX1 hown hK hP hD hS 0 rfl rfl 0 (by decide) (hts (.fieldLink RX1 18 "CallGraphs$Choices" "types" "LCallGraphs$Types;") (List.mem_of_getElem? (i := 7) rfl)) (fun _ h9 => h9) rfl hin rfl (tyX1_ok 0 (by decide)) rfl rfl (Nat.le_of_ble_eq_true rfl) dX1_init_24 (fun H locs hP hD hS => ?_)
  have hP : va_P D vwCl [(h0, .inr (0, [.ref a1, .null, .ref q1, .ref q2])), (q1, .inl (cI, 160, .inl (fun _ => 0))), (q2, .inl (cI, 160, .inl (fun _ => 0)))] H := hP
  have hD : va_D A [(h0, .inr (0, [.ref a1, .null, .ref q1, .ref q2])), (q1, .inl (cI, 160, .inl (fun _ => 0))), (q2, .inl (cI, 160, .inl (fun _ => 0)))] := hD
  refine lv_aload_n hx hb dX1_init_27 rfl (lv_at hl 0 rfl) ?_
  refine lv_aload_n hx hb dX1_init_28 rfl (lv_at hl 2 rfl) ?_
  refine va_putF (D := D) (ci := 0) (v := .ref a2) (ty := tyX1 1) (C := RX1) (T := TX1) (N := 4) hx hb hts in_X1_init_X1 tyX1 tyX1_ok nmX1 hown hK hP hD hS 0 rfl rfl 1 (by decide) (hts (.fieldLink RX1 22 "CallGraphs$Choices" "members" "LCallGraphs$Members;") (List.mem_of_getElem? (i := 8) rfl)) (fun _ h9 => h9) rfl hin rfl (tyX1_ok 1 (by decide)) rfl rfl (Nat.le_of_ble_eq_true rfl) dX1_init_29 (fun H locs hP hD hS => ?_)
  have hP : va_P D vwCl [(h0, .inr (0, [.ref a1, .ref a2, .ref q1, .ref q2])), (q1, .inl (cI, 160, .inl (fun _ => 0))), (q2, .inl (cI, 160, .inl (fun _ => 0)))] H := hP
  have hD : va_D A [(h0, .inr (0, [.ref a1, .ref a2, .ref q1, .ref q2])), (q1, .inl (cI, 160, .inl (fun _ => 0))), (q2, .inl (cI, 160, .inl (fun _ => 0)))] := hD
  exact W.vret hx hb hr (fun t ht hW => ⟨⟨(fun k => [q1, q2].getD k 0), rfl, trivial, by rw [ht]; exact hP, hD⟩, hS.F ht⟩) hS.2.2 dX1_init_32 hlocks
theorem in_X5_init_X5 : ∀ w ∈ u_ws RX5 TX5 6, w ∈ wsX5_init := fun w h => List.mem_cons_of_mem _ (List.mem_append_right _ h)
set_option maxHeartbeats 4000000 in
set_option maxRecDepth 100000 in
theorem c_X5_init (l : Launch) (D : va_G) (cI cJ cZ : ClassId) (h0 sz : Nat) : Met l yX5_init wsX5_init ({ frames := 1, cells := 5, slots := 1680, locals := 60 } : Room) (va_Pc [.ref h0] (fun U => U.heap.size = sz ∧ va_P D vwCl [(h0, .inr (4, [.null, .null, .null, .null, .null, .int 0]))] U.heap ∧ va_K D vwCl (tyw cI cJ cZ) U ∧ va_D (fun _ => True) [(h0, .inr (4, [.null, .null, .null, .null, .null, .int 0]))])) (va_Qv (fun _ : Nat → Nat => True) (fun u t => va_P D vwCl [(h0, .inr (4, [.ref (u 0), .ref (u 1), .ref (u 2), .ref (u 3), .ref (u 4), .int 0])), ((u 0), .inl (cI, 160, .inl (fun _ => 0))), ((u 1), .inl (cI, 160, .inl (fun _ => 0))), ((u 2), .inl (cI, 160, .inl (fun _ => 0))), ((u 3), .inl (cI, 48, .inl (fun _ => 0))), ((u 4), .inl (cI, 1152, .inl (fun _ => 0)))] t.heap ∧ va_D (va_A [(h0, .inr (4, [.null, .null, .null, .null, .null, .int 0]))] sz) [(h0, .inr (4, [.ref (u 0), .ref (u 1), .ref (u 2), .ref (u 3), .ref (u 4), .int 0])), ((u 0), .inl (cI, 160, .inl (fun _ => 0))), ((u 1), .inl (cI, 160, .inl (fun _ => 0))), ((u 2), .inl (cI, 160, .inl (fun _ => 0))), ((u 3), .inl (cI, 48, .inl (fun _ => 0))), ((u 4), .inl (cI, 1152, .inl (fun _ => 0)))]) (va_A [(h0, .inr (4, [.null, .null, .null, .null, .null, .int 0]))] sz)) 5 1680 (va_A [(h0, .inr (4, [.null, .null, .null, .null, .null, .int 0]))] sz) := by
  refine Met.ofW (cc := cX5_init) (maxL := 1) (ret := none) (by decide) rfl ?_
  intro p e s m args below meth c s₁ B hml hv
  obtain ⟨rfl, hsz, hP, hK, hD0⟩ := hv
  have hx := B.exec
  have hb := B.bytes
  have hr := B.returns
  have hts := atoms_spec (ws := wsX5_init) B.pre
  have hown : s.vm.findClass RX5 = some m.cls := findClass_of_methodNamed B.named
  have hlocks := B.notSynchronized
  have hin : meth.name = "<init>" := (name_of_methodNamed B.named B.method).1
  subst hsz
  have hD := hD0.self (sz := s.heap.size)
  generalize hAe : va_A [(h0, .inr (4, [.null, .null, .null, .null, .null, .int 0]))] s.heap.size = A at hD ⊢
  have hA : ∀ q : Nat, s.heap.size ≤ q → A q := fun q h => by rw [← hAe]; exact Or.inr h
  have hS : va_S A s.heap s.heap [] := va_S.rf
  have hl := lv_entry ([.ref h0]) (n := 1) (Nat.le_of_ble_eq_true rfl)
  rw [lg_entry_eq]
  generalize (lg_sl ([.ref h0]) ++ List.replicate (1 - (lg_sl ([.ref h0])).length) Slot.unset).toArray = ls at hl ⊢
  have hl : lv_has ls 1 [(0, .ref h0)] := hl
  refine lv_aload_n hx hb dX5_init_0 rfl (lv_at hl 0 rfl) ?_
  refine W.objInit hx hb hown (hts (.methodLink RX5 3 objectInit) (List.mem_of_getElem? (i := 1) rfl)) (hts (.instanceMethod objectInit) (List.mem_of_getElem? (i := 2) rfl)) (hts (.code objectInit ⟨#[0xb1]⟩ 1 none) (List.mem_of_getElem? (i := 3) rfl)) rfl (by rw [hml]; exact hl.1) rfl dX5_init_1 (Nat.le_of_ble_eq_true rfl) (Nat.le_of_ble_eq_true rfl) ?_
  refine W.eq (g2 := F0 m 4 ls []) rfl ?_
  refine lv_aload_n hx hb dX5_init_4 rfl (lv_at hl 0 rfl) ?_
  refine lv_sipush (v := 160) hx hb dX5_init_5 (by decide) ?_
  refine va_newa (atype := .int) (n := 160) (N' := 160) (a0 := (160, .inl (fun _ => 0))) (ty := .int) hx hb (hts (.arrayClass .int) (List.mem_of_getElem? (i := 4) rfl)) rfl hK hP hD hS hA (fun _ => rfl) (by decide) (by decide) (by decide) (Nat.le_of_ble_eq_true rfl) (Nat.le_of_ble_eq_true rfl) dX5_init_8 (fun q1 cA1 H hK1 hP hD hS => ?_)
  refine W.widen (k := 1) (n := 160) (Nat.le_of_ble_eq_true rfl) (Nat.le_of_ble_eq_true rfl) ?_
  have e1 : cA1 = cI := Option.some.inj ((va_nm_int (hK1.2 3 _ rfl).2).symm.trans (va_nm_int (hK.2 0 _ rfl).2))
  rw [e1] at hP hD
  have hP : va_P D vwCl [(h0, .inr (4, [.null, .null, .null, .null, .null, .int 0])), (q1, .inl (cI, 160, .inl (fun _ => 0)))] H := hP
  have hD : va_D A [(h0, .inr (4, [.null, .null, .null, .null, .null, .int 0])), (q1, .inl (cI, 160, .inl (fun _ => 0)))] := hD
  refine va_putF (D := D) (ci := 4) (v := .ref q1) (ty := tyX5 0) (C := RX5) (T := TX5) (N := 6) hx hb hts in_X5_init_X5 tyX5 tyX5_ok nmX5 hown hK hP hD hS 0 rfl rfl 0 (by decide) (hts (.fieldLink RX5 9 "CallGraphs$Ops" "kinds" "[I") (List.mem_of_getElem? (i := 5) rfl)) (fun _ h9 => h9) rfl hin rfl (tyX5_ok 0 (by decide)) rfl rfl (Nat.le_of_ble_eq_true rfl) dX5_init_10 (fun H locs hP hD hS => ?_)
  have hP : va_P D vwCl [(h0, .inr (4, [.ref q1, .null, .null, .null, .null, .int 0])), (q1, .inl (cI, 160, .inl (fun _ => 0)))] H := hP
  have hD : va_D A [(h0, .inr (4, [.ref q1, .null, .null, .null, .null, .int 0])), (q1, .inl (cI, 160, .inl (fun _ => 0)))] := hD
  refine lv_aload_n hx hb dX5_init_13 rfl (lv_at hl 0 rfl) ?_
  refine lv_sipush (v := 160) hx hb dX5_init_14 (by decide) ?_
  refine va_newa (atype := .int) (n := 160) (N' := 160) (a0 := (160, .inl (fun _ => 0))) (ty := .int) hx hb (hts (.arrayClass .int) (List.mem_of_getElem? (i := 4) rfl)) rfl hK hP hD hS hA (fun _ => rfl) (by decide) (by decide) (by decide) (Nat.le_of_ble_eq_true rfl) (Nat.le_of_ble_eq_true rfl) dX5_init_17 (fun q2 cA2 H hK1 hP hD hS => ?_)
  refine W.widen (k := 2) (n := 320) (Nat.le_of_ble_eq_true rfl) (Nat.le_of_ble_eq_true rfl) ?_
  have e2 : cA2 = cI := Option.some.inj ((va_nm_int (hK1.2 3 _ rfl).2).symm.trans (va_nm_int (hK.2 0 _ rfl).2))
  rw [e2] at hP hD
  have hP : va_P D vwCl [(h0, .inr (4, [.ref q1, .null, .null, .null, .null, .int 0])), (q1, .inl (cI, 160, .inl (fun _ => 0))), (q2, .inl (cI, 160, .inl (fun _ => 0)))] H := hP
  have hD : va_D A [(h0, .inr (4, [.ref q1, .null, .null, .null, .null, .int 0])), (q1, .inl (cI, 160, .inl (fun _ => 0))), (q2, .inl (cI, 160, .inl (fun _ => 0)))] := hD
  refine va_putF (D := D) (ci := 4) (v := .ref q2) (ty := tyX5 1) (C := RX5) (T := TX5) (N := 6) hx hb hts in_X5_init_X5 tyX5 tyX5_ok nmX5 hown hK hP hD hS 0 rfl rfl 1 (by decide) (hts (.fieldLink RX5 15 "CallGraphs$Ops" "as" "[I") (List.mem_of_getElem? (i := 6) rfl)) (fun _ h9 => h9) rfl hin rfl (tyX5_ok 1 (by decide)) rfl rfl (Nat.le_of_ble_eq_true rfl) dX5_init_19 (fun H locs hP hD hS => ?_)
  have hP : va_P D vwCl [(h0, .inr (4, [.ref q1, .ref q2, .null, .null, .null, .int 0])), (q1, .inl (cI, 160, .inl (fun _ => 0))), (q2, .inl (cI, 160, .inl (fun _ => 0)))] H := hP
  have hD : va_D A [(h0, .inr (4, [.ref q1, .ref q2, .null, .null, .null, .int 0])), (q1, .inl (cI, 160, .inl (fun _ => 0))), (q2, .inl (cI, 160, .inl (fun _ => 0)))] := hD
  refine lv_aload_n hx hb dX5_init_22 rfl (lv_at hl 0 rfl) ?_
  refine lv_sipush (v := 160) hx hb dX5_init_23 (by decide) ?_
  refine va_newa (atype := .int) (n := 160) (N' := 160) (a0 := (160, .inl (fun _ => 0))) (ty := .int) hx hb (hts (.arrayClass .int) (List.mem_of_getElem? (i := 4) rfl)) rfl hK hP hD hS hA (fun _ => rfl) (by decide) (by decide) (by decide) (Nat.le_of_ble_eq_true rfl) (Nat.le_of_ble_eq_true rfl) dX5_init_26 (fun q3 cA3 H hK1 hP hD hS => ?_)
  refine W.widen (k := 3) (n := 480) (Nat.le_of_ble_eq_true rfl) (Nat.le_of_ble_eq_true rfl) ?_
  have e3 : cA3 = cI := Option.some.inj ((va_nm_int (hK1.2 3 _ rfl).2).symm.trans (va_nm_int (hK.2 0 _ rfl).2))
  rw [e3] at hP hD
  have hP : va_P D vwCl [(h0, .inr (4, [.ref q1, .ref q2, .null, .null, .null, .int 0])), (q1, .inl (cI, 160, .inl (fun _ => 0))), (q2, .inl (cI, 160, .inl (fun _ => 0))), (q3, .inl (cI, 160, .inl (fun _ => 0)))] H := hP
  have hD : va_D A [(h0, .inr (4, [.ref q1, .ref q2, .null, .null, .null, .int 0])), (q1, .inl (cI, 160, .inl (fun _ => 0))), (q2, .inl (cI, 160, .inl (fun _ => 0))), (q3, .inl (cI, 160, .inl (fun _ => 0)))] := hD
  refine va_putF (D := D) (ci := 4) (v := .ref q3) (ty := tyX5 2) (C := RX5) (T := TX5) (N := 6) hx hb hts in_X5_init_X5 tyX5 tyX5_ok nmX5 hown hK hP hD hS 0 rfl rfl 2 (by decide) (hts (.fieldLink RX5 18 "CallGraphs$Ops" "bs" "[I") (List.mem_of_getElem? (i := 7) rfl)) (fun _ h9 => h9) rfl hin rfl (tyX5_ok 2 (by decide)) rfl rfl (Nat.le_of_ble_eq_true rfl) dX5_init_28 (fun H locs hP hD hS => ?_)
  have hP : va_P D vwCl [(h0, .inr (4, [.ref q1, .ref q2, .ref q3, .null, .null, .int 0])), (q1, .inl (cI, 160, .inl (fun _ => 0))), (q2, .inl (cI, 160, .inl (fun _ => 0))), (q3, .inl (cI, 160, .inl (fun _ => 0)))] H := hP
  have hD : va_D A [(h0, .inr (4, [.ref q1, .ref q2, .ref q3, .null, .null, .int 0])), (q1, .inl (cI, 160, .inl (fun _ => 0))), (q2, .inl (cI, 160, .inl (fun _ => 0))), (q3, .inl (cI, 160, .inl (fun _ => 0)))] := hD
  refine lv_aload_n hx hb dX5_init_31 rfl (lv_at hl 0 rfl) ?_
  refine lv_bipush (v := 48) hx hb dX5_init_32 (by decide) ?_
  refine va_newa (atype := .int) (n := 48) (N' := 48) (a0 := (48, .inl (fun _ => 0))) (ty := .int) hx hb (hts (.arrayClass .int) (List.mem_of_getElem? (i := 4) rfl)) rfl hK hP hD hS hA (fun _ => rfl) (by decide) (by decide) (by decide) (Nat.le_of_ble_eq_true rfl) (Nat.le_of_ble_eq_true rfl) dX5_init_34 (fun q4 cA4 H hK1 hP hD hS => ?_)
  refine W.widen (k := 4) (n := 528) (Nat.le_of_ble_eq_true rfl) (Nat.le_of_ble_eq_true rfl) ?_
  have e4 : cA4 = cI := Option.some.inj ((va_nm_int (hK1.2 3 _ rfl).2).symm.trans (va_nm_int (hK.2 0 _ rfl).2))
  rw [e4] at hP hD
  have hP : va_P D vwCl [(h0, .inr (4, [.ref q1, .ref q2, .ref q3, .null, .null, .int 0])), (q1, .inl (cI, 160, .inl (fun _ => 0))), (q2, .inl (cI, 160, .inl (fun _ => 0))), (q3, .inl (cI, 160, .inl (fun _ => 0))), (q4, .inl (cI, 48, .inl (fun _ => 0)))] H := hP
  have hD : va_D A [(h0, .inr (4, [.ref q1, .ref q2, .ref q3, .null, .null, .int 0])), (q1, .inl (cI, 160, .inl (fun _ => 0))), (q2, .inl (cI, 160, .inl (fun _ => 0))), (q3, .inl (cI, 160, .inl (fun _ => 0))), (q4, .inl (cI, 48, .inl (fun _ => 0)))] := hD
  refine va_putF (D := D) (ci := 4) (v := .ref q4) (ty := tyX5 3) (C := RX5) (T := TX5) (N := 6) hx hb hts in_X5_init_X5 tyX5 tyX5_ok nmX5 hown hK hP hD hS 0 rfl rfl 3 (by decide) (hts (.fieldLink RX5 21 "CallGraphs$Ops" "counts" "[I") (List.mem_of_getElem? (i := 8) rfl)) (fun _ h9 => h9) rfl hin rfl (tyX5_ok 3 (by decide)) rfl rfl (Nat.le_of_ble_eq_true rfl) dX5_init_36 (fun H locs hP hD hS => ?_)
  have hP : va_P D vwCl [(h0, .inr (4, [.ref q1, .ref q2, .ref q3, .ref q4, .null, .int 0])), (q1, .inl (cI, 160, .inl (fun _ => 0))), (q2, .inl (cI, 160, .inl (fun _ => 0))), (q3, .inl (cI, 160, .inl (fun _ => 0))), (q4, .inl (cI, 48, .inl (fun _ => 0)))] H := hP
  have hD : va_D A [(h0, .inr (4, [.ref q1, .ref q2, .ref q3, .ref q4, .null, .int 0])), (q1, .inl (cI, 160, .inl (fun _ => 0))), (q2, .inl (cI, 160, .inl (fun _ => 0))), (q3, .inl (cI, 160, .inl (fun _ => 0))), (q4, .inl (cI, 48, .inl (fun _ => 0)))] := hD
  refine lv_aload_n hx hb dX5_init_39 rfl (lv_at hl 0 rfl) ?_
  refine lv_sipush (v := 1152) hx hb dX5_init_40 (by decide) ?_
  refine va_newa (atype := .int) (n := 1152) (N' := 1152) (a0 := (1152, .inl (fun _ => 0))) (ty := .int) hx hb (hts (.arrayClass .int) (List.mem_of_getElem? (i := 4) rfl)) rfl hK hP hD hS hA (fun _ => rfl) (by decide) (by decide) (by decide) (Nat.le_of_ble_eq_true rfl) (Nat.le_of_ble_eq_true rfl) dX5_init_43 (fun q5 cA5 H hK1 hP hD hS => ?_)
  refine W.widen (k := 5) (n := 1680) (Nat.le_of_ble_eq_true rfl) (Nat.le_of_ble_eq_true rfl) ?_
  have e5 : cA5 = cI := Option.some.inj ((va_nm_int (hK1.2 3 _ rfl).2).symm.trans (va_nm_int (hK.2 0 _ rfl).2))
  rw [e5] at hP hD
  have hP : va_P D vwCl [(h0, .inr (4, [.ref q1, .ref q2, .ref q3, .ref q4, .null, .int 0])), (q1, .inl (cI, 160, .inl (fun _ => 0))), (q2, .inl (cI, 160, .inl (fun _ => 0))), (q3, .inl (cI, 160, .inl (fun _ => 0))), (q4, .inl (cI, 48, .inl (fun _ => 0))), (q5, .inl (cI, 1152, .inl (fun _ => 0)))] H := hP
  have hD : va_D A [(h0, .inr (4, [.ref q1, .ref q2, .ref q3, .ref q4, .null, .int 0])), (q1, .inl (cI, 160, .inl (fun _ => 0))), (q2, .inl (cI, 160, .inl (fun _ => 0))), (q3, .inl (cI, 160, .inl (fun _ => 0))), (q4, .inl (cI, 48, .inl (fun _ => 0))), (q5, .inl (cI, 1152, .inl (fun _ => 0)))] := hD
  refine va_putF (D := D) (ci := 4) (v := .ref q5) (ty := tyX5 4) (C := RX5) (T := TX5) (N := 6) hx hb hts in_X5_init_X5 tyX5 tyX5_ok nmX5 hown hK hP hD hS 0 rfl rfl 4 (by decide) (hts (.fieldLink RX5 24 "CallGraphs$Ops" "places" "[I") (List.mem_of_getElem? (i := 9) rfl)) (fun _ h9 => h9) rfl hin rfl (tyX5_ok 4 (by decide)) rfl rfl (Nat.le_of_ble_eq_true rfl) dX5_init_45 (fun H locs hP hD hS => ?_)
  have hP : va_P D vwCl [(h0, .inr (4, [.ref q1, .ref q2, .ref q3, .ref q4, .ref q5, .int 0])), (q1, .inl (cI, 160, .inl (fun _ => 0))), (q2, .inl (cI, 160, .inl (fun _ => 0))), (q3, .inl (cI, 160, .inl (fun _ => 0))), (q4, .inl (cI, 48, .inl (fun _ => 0))), (q5, .inl (cI, 1152, .inl (fun _ => 0)))] H := hP
  have hD : va_D A [(h0, .inr (4, [.ref q1, .ref q2, .ref q3, .ref q4, .ref q5, .int 0])), (q1, .inl (cI, 160, .inl (fun _ => 0))), (q2, .inl (cI, 160, .inl (fun _ => 0))), (q3, .inl (cI, 160, .inl (fun _ => 0))), (q4, .inl (cI, 48, .inl (fun _ => 0))), (q5, .inl (cI, 1152, .inl (fun _ => 0)))] := hD
  exact W.vret hx hb hr (fun t ht hW => ⟨⟨(fun k => [q1, q2, q3, q4, q5].getD k 0), rfl, trivial, by rw [ht]; exact hP, hD⟩, hS.F ht⟩) hS.2.2 dX5_init_48 hlocks
theorem in_X3_init_X3 : ∀ w ∈ u_ws RX3 TX3 13, w ∈ wsX3_init := fun w h => List.mem_cons_of_mem _ (List.mem_append_right _ h)
set_option maxHeartbeats 4000000 in
set_option maxRecDepth 100000 in
theorem c_X3_init (l : Launch) (D : va_G) (cI cJ cZ : ClassId) (h0 a1 a2 a3 a4 sz : Nat) : Met l yX3_init wsX3_init ({ frames := 1, cells := 5, slots := 308, locals := 60 } : Room) (va_Pc [.ref h0, .ref a1, .ref a2, .ref a3, .ref a4] (fun U => U.heap.size = sz ∧ va_P D vwCl [(h0, .inr (2, [.null, .null, .null, .null, .null, .null, .null, .null, .null, .long 0, .long 0, .long 0, .int 0]))] U.heap ∧ va_K D vwCl (tyw cI cJ cZ) U ∧ va_D (fun _ => True) [(h0, .inr (2, [.null, .null, .null, .null, .null, .null, .null, .null, .null, .long 0, .long 0, .long 0, .int 0]))])) (va_Qv (fun _ : Nat → Nat => True) (fun u t => va_P D vwCl [(h0, .inr (2, [.ref a1, .ref a2, .ref a3, .ref a4, .ref (u 0), .ref (u 1), .ref (u 2), .ref (u 3), .ref (u 4), .long 0, .long 0, .long 0, .int 0])), ((u 0), .inl (cJ, 4, .inr (.inl (fun _ => 0)))), ((u 1), .inl (cJ, 160, .inr (.inl (fun _ => 0)))), ((u 2), .inl (cJ, 48, .inr (.inl (fun _ => 0)))), ((u 3), .inl (cJ, 48, .inr (.inl (fun _ => 0)))), ((u 4), .inl (cJ, 48, .inr (.inl (fun _ => 0))))] t.heap ∧ va_D (va_A [(h0, .inr (2, [.null, .null, .null, .null, .null, .null, .null, .null, .null, .long 0, .long 0, .long 0, .int 0]))] sz) [(h0, .inr (2, [.ref a1, .ref a2, .ref a3, .ref a4, .ref (u 0), .ref (u 1), .ref (u 2), .ref (u 3), .ref (u 4), .long 0, .long 0, .long 0, .int 0])), ((u 0), .inl (cJ, 4, .inr (.inl (fun _ => 0)))), ((u 1), .inl (cJ, 160, .inr (.inl (fun _ => 0)))), ((u 2), .inl (cJ, 48, .inr (.inl (fun _ => 0)))), ((u 3), .inl (cJ, 48, .inr (.inl (fun _ => 0)))), ((u 4), .inl (cJ, 48, .inr (.inl (fun _ => 0))))]) (va_A [(h0, .inr (2, [.null, .null, .null, .null, .null, .null, .null, .null, .null, .long 0, .long 0, .long 0, .int 0]))] sz)) 5 308 (va_A [(h0, .inr (2, [.null, .null, .null, .null, .null, .null, .null, .null, .null, .long 0, .long 0, .long 0, .int 0]))] sz) := by
  refine Met.ofW (cc := cX3_init) (maxL := 5) (ret := none) (by decide) rfl ?_
  intro p e s m args below meth c s₁ B hml hv
  obtain ⟨rfl, hsz, hP, hK, hD0⟩ := hv
  have hx := B.exec
  have hb := B.bytes
  have hr := B.returns
  have hts := atoms_spec (ws := wsX3_init) B.pre
  have hown : s.vm.findClass RX3 = some m.cls := findClass_of_methodNamed B.named
  have hlocks := B.notSynchronized
  have hin : meth.name = "<init>" := (name_of_methodNamed B.named B.method).1
  subst hsz
  have hD := hD0.self (sz := s.heap.size)
  generalize hAe : va_A [(h0, .inr (2, [.null, .null, .null, .null, .null, .null, .null, .null, .null, .long 0, .long 0, .long 0, .int 0]))] s.heap.size = A at hD ⊢
  have hA : ∀ q : Nat, s.heap.size ≤ q → A q := fun q h => by rw [← hAe]; exact Or.inr h
  have hS : va_S A s.heap s.heap [] := va_S.rf
  have hl := lv_entry ([.ref h0, .ref a1, .ref a2, .ref a3, .ref a4]) (n := 5) (Nat.le_of_ble_eq_true rfl)
  rw [lg_entry_eq]
  generalize (lg_sl ([.ref h0, .ref a1, .ref a2, .ref a3, .ref a4]) ++ List.replicate (5 - (lg_sl ([.ref h0, .ref a1, .ref a2, .ref a3, .ref a4])).length) Slot.unset).toArray = ls at hl ⊢
  have hl : lv_has ls 5 [(0, .ref h0), (1, .ref a1), (2, .ref a2), (3, .ref a3), (4, .ref a4)] := hl
  refine lv_aload_n hx hb dX3_init_0 rfl (lv_at hl 0 rfl) ?_
  refine W.objInit hx hb hown (hts (.methodLink RX3 3 objectInit) (List.mem_of_getElem? (i := 1) rfl)) (hts (.instanceMethod objectInit) (List.mem_of_getElem? (i := 2) rfl)) (hts (.code objectInit ⟨#[0xb1]⟩ 1 none) (List.mem_of_getElem? (i := 3) rfl)) rfl (by rw [hml]; exact hl.1) rfl dX3_init_1 (Nat.le_of_ble_eq_true rfl) (Nat.le_of_ble_eq_true rfl) ?_
  refine W.eq (g2 := F0 m 4 ls []) rfl ?_
  refine lv_aload_n hx hb dX3_init_4 rfl (lv_at hl 0 rfl) ?_
  refine lv_iconst (v := 4) hx hb dX3_init_5 (by decide) ?_
  refine va_newa (atype := .long) (n := 4) (N' := 4) (a0 := (4, .inr (.inl (fun _ => 0)))) (ty := .long) hx hb (hts (.arrayClass .long) (List.mem_of_getElem? (i := 4) rfl)) rfl hK hP hD hS hA (fun _ => rfl) (by decide) (by decide) (by decide) (Nat.le_of_ble_eq_true rfl) (Nat.le_of_ble_eq_true rfl) dX3_init_6 (fun q1 cA1 H hK1 hP hD hS => ?_)
  refine W.widen (k := 1) (n := 4) (Nat.le_of_ble_eq_true rfl) (Nat.le_of_ble_eq_true rfl) ?_
  have e1 : cA1 = cJ := Option.some.inj ((va_nm_long (hK1.2 3 _ rfl).2).symm.trans (va_nm_long (hK.2 1 _ rfl).2))
  rw [e1] at hP hD
  have hP : va_P D vwCl [(h0, .inr (2, [.null, .null, .null, .null, .null, .null, .null, .null, .null, .long 0, .long 0, .long 0, .int 0])), (q1, .inl (cJ, 4, .inr (.inl (fun _ => 0))))] H := hP
  have hD : va_D A [(h0, .inr (2, [.null, .null, .null, .null, .null, .null, .null, .null, .null, .long 0, .long 0, .long 0, .int 0])), (q1, .inl (cJ, 4, .inr (.inl (fun _ => 0))))] := hD
  refine va_putF (D := D) (ci := 2) (v := .ref q1) (ty := tyX3 4) (C := RX3) (T := TX3) (N := 13) hx hb hts in_X3_init_X3 tyX3 tyX3_ok nmX3 hown hK hP hD hS 0 rfl rfl 4 (by decide) (hts (.fieldLink RX3 9 "CallGraphs$Graph" "bags" "[J") (List.mem_of_getElem? (i := 5) rfl)) (fun _ h9 => h9) rfl hin rfl (tyX3_ok 4 (by decide)) rfl rfl (Nat.le_of_ble_eq_true rfl) dX3_init_8 (fun H locs hP hD hS => ?_)
  have hP : va_P D vwCl [(h0, .inr (2, [.null, .null, .null, .null, .ref q1, .null, .null, .null, .null, .long 0, .long 0, .long 0, .int 0])), (q1, .inl (cJ, 4, .inr (.inl (fun _ => 0))))] H := hP
  have hD : va_D A [(h0, .inr (2, [.null, .null, .null, .null, .ref q1, .null, .null, .null, .null, .long 0, .long 0, .long 0, .int 0])), (q1, .inl (cJ, 4, .inr (.inl (fun _ => 0))))] := hD
  refine lv_aload_n hx hb dX3_init_11 rfl (lv_at hl 0 rfl) ?_
  refine lv_sipush (v := 160) hx hb dX3_init_12 (by decide) ?_
  refine va_newa (atype := .long) (n := 160) (N' := 160) (a0 := (160, .inr (.inl (fun _ => 0)))) (ty := .long) hx hb (hts (.arrayClass .long) (List.mem_of_getElem? (i := 4) rfl)) rfl hK hP hD hS hA (fun _ => rfl) (by decide) (by decide) (by decide) (Nat.le_of_ble_eq_true rfl) (Nat.le_of_ble_eq_true rfl) dX3_init_15 (fun q2 cA2 H hK1 hP hD hS => ?_)
  refine W.widen (k := 2) (n := 164) (Nat.le_of_ble_eq_true rfl) (Nat.le_of_ble_eq_true rfl) ?_
  have e2 : cA2 = cJ := Option.some.inj ((va_nm_long (hK1.2 3 _ rfl).2).symm.trans (va_nm_long (hK.2 1 _ rfl).2))
  rw [e2] at hP hD
  have hP : va_P D vwCl [(h0, .inr (2, [.null, .null, .null, .null, .ref q1, .null, .null, .null, .null, .long 0, .long 0, .long 0, .int 0])), (q1, .inl (cJ, 4, .inr (.inl (fun _ => 0)))), (q2, .inl (cJ, 160, .inr (.inl (fun _ => 0))))] H := hP
  have hD : va_D A [(h0, .inr (2, [.null, .null, .null, .null, .ref q1, .null, .null, .null, .null, .long 0, .long 0, .long 0, .int 0])), (q1, .inl (cJ, 4, .inr (.inl (fun _ => 0)))), (q2, .inl (cJ, 160, .inr (.inl (fun _ => 0))))] := hD
  refine va_putF (D := D) (ci := 2) (v := .ref q2) (ty := tyX3 5) (C := RX3) (T := TX3) (N := 13) hx hb hts in_X3_init_X3 tyX3 tyX3_ok nmX3 hown hK hP hD hS 0 rfl rfl 5 (by decide) (hts (.fieldLink RX3 15 "CallGraphs$Graph" "callees" "[J") (List.mem_of_getElem? (i := 6) rfl)) (fun _ h9 => h9) rfl hin rfl (tyX3_ok 5 (by decide)) rfl rfl (Nat.le_of_ble_eq_true rfl) dX3_init_17 (fun H locs hP hD hS => ?_)
  have hP : va_P D vwCl [(h0, .inr (2, [.null, .null, .null, .null, .ref q1, .ref q2, .null, .null, .null, .long 0, .long 0, .long 0, .int 0])), (q1, .inl (cJ, 4, .inr (.inl (fun _ => 0)))), (q2, .inl (cJ, 160, .inr (.inl (fun _ => 0))))] H := hP
  have hD : va_D A [(h0, .inr (2, [.null, .null, .null, .null, .ref q1, .ref q2, .null, .null, .null, .long 0, .long 0, .long 0, .int 0])), (q1, .inl (cJ, 4, .inr (.inl (fun _ => 0)))), (q2, .inl (cJ, 160, .inr (.inl (fun _ => 0))))] := hD
  refine lv_aload_n hx hb dX3_init_20 rfl (lv_at hl 0 rfl) ?_
  refine lv_bipush (v := 48) hx hb dX3_init_21 (by decide) ?_
  refine va_newa (atype := .long) (n := 48) (N' := 48) (a0 := (48, .inr (.inl (fun _ => 0)))) (ty := .long) hx hb (hts (.arrayClass .long) (List.mem_of_getElem? (i := 4) rfl)) rfl hK hP hD hS hA (fun _ => rfl) (by decide) (by decide) (by decide) (Nat.le_of_ble_eq_true rfl) (Nat.le_of_ble_eq_true rfl) dX3_init_23 (fun q3 cA3 H hK1 hP hD hS => ?_)
  refine W.widen (k := 3) (n := 212) (Nat.le_of_ble_eq_true rfl) (Nat.le_of_ble_eq_true rfl) ?_
  have e3 : cA3 = cJ := Option.some.inj ((va_nm_long (hK1.2 3 _ rfl).2).symm.trans (va_nm_long (hK.2 1 _ rfl).2))
  rw [e3] at hP hD
  have hP : va_P D vwCl [(h0, .inr (2, [.null, .null, .null, .null, .ref q1, .ref q2, .null, .null, .null, .long 0, .long 0, .long 0, .int 0])), (q1, .inl (cJ, 4, .inr (.inl (fun _ => 0)))), (q2, .inl (cJ, 160, .inr (.inl (fun _ => 0)))), (q3, .inl (cJ, 48, .inr (.inl (fun _ => 0))))] H := hP
  have hD : va_D A [(h0, .inr (2, [.null, .null, .null, .null, .ref q1, .ref q2, .null, .null, .null, .long 0, .long 0, .long 0, .int 0])), (q1, .inl (cJ, 4, .inr (.inl (fun _ => 0)))), (q2, .inl (cJ, 160, .inr (.inl (fun _ => 0)))), (q3, .inl (cJ, 48, .inr (.inl (fun _ => 0))))] := hD
  refine va_putF (D := D) (ci := 2) (v := .ref q3) (ty := tyX3 6) (C := RX3) (T := TX3) (N := 13) hx hb hts in_X3_init_X3 tyX3 tyX3_ok nmX3 hown hK hP hD hS 0 rfl rfl 6 (by decide) (hts (.fieldLink RX3 18 "CallGraphs$Graph" "calls" "[J") (List.mem_of_getElem? (i := 7) rfl)) (fun _ h9 => h9) rfl hin rfl (tyX3_ok 6 (by decide)) rfl rfl (Nat.le_of_ble_eq_true rfl) dX3_init_25 (fun H locs hP hD hS => ?_)
  have hP : va_P D vwCl [(h0, .inr (2, [.null, .null, .null, .null, .ref q1, .ref q2, .ref q3, .null, .null, .long 0, .long 0, .long 0, .int 0])), (q1, .inl (cJ, 4, .inr (.inl (fun _ => 0)))), (q2, .inl (cJ, 160, .inr (.inl (fun _ => 0)))), (q3, .inl (cJ, 48, .inr (.inl (fun _ => 0))))] H := hP
  have hD : va_D A [(h0, .inr (2, [.null, .null, .null, .null, .ref q1, .ref q2, .ref q3, .null, .null, .long 0, .long 0, .long 0, .int 0])), (q1, .inl (cJ, 4, .inr (.inl (fun _ => 0)))), (q2, .inl (cJ, 160, .inr (.inl (fun _ => 0)))), (q3, .inl (cJ, 48, .inr (.inl (fun _ => 0))))] := hD
  refine lv_aload_n hx hb dX3_init_28 rfl (lv_at hl 0 rfl) ?_
  refine lv_bipush (v := 48) hx hb dX3_init_29 (by decide) ?_
  refine va_newa (atype := .long) (n := 48) (N' := 48) (a0 := (48, .inr (.inl (fun _ => 0)))) (ty := .long) hx hb (hts (.arrayClass .long) (List.mem_of_getElem? (i := 4) rfl)) rfl hK hP hD hS hA (fun _ => rfl) (by decide) (by decide) (by decide) (Nat.le_of_ble_eq_true rfl) (Nat.le_of_ble_eq_true rfl) dX3_init_31 (fun q4 cA4 H hK1 hP hD hS => ?_)
  refine W.widen (k := 4) (n := 260) (Nat.le_of_ble_eq_true rfl) (Nat.le_of_ble_eq_true rfl) ?_
  have e4 : cA4 = cJ := Option.some.inj ((va_nm_long (hK1.2 3 _ rfl).2).symm.trans (va_nm_long (hK.2 1 _ rfl).2))
  rw [e4] at hP hD
  have hP : va_P D vwCl [(h0, .inr (2, [.null, .null, .null, .null, .ref q1, .ref q2, .ref q3, .null, .null, .long 0, .long 0, .long 0, .int 0])), (q1, .inl (cJ, 4, .inr (.inl (fun _ => 0)))), (q2, .inl (cJ, 160, .inr (.inl (fun _ => 0)))), (q3, .inl (cJ, 48, .inr (.inl (fun _ => 0)))), (q4, .inl (cJ, 48, .inr (.inl (fun _ => 0))))] H := hP
  have hD : va_D A [(h0, .inr (2, [.null, .null, .null, .null, .ref q1, .ref q2, .ref q3, .null, .null, .long 0, .long 0, .long 0, .int 0])), (q1, .inl (cJ, 4, .inr (.inl (fun _ => 0)))), (q2, .inl (cJ, 160, .inr (.inl (fun _ => 0)))), (q3, .inl (cJ, 48, .inr (.inl (fun _ => 0)))), (q4, .inl (cJ, 48, .inr (.inl (fun _ => 0))))] := hD
  refine va_putF (D := D) (ci := 2) (v := .ref q4) (ty := tyX3 7) (C := RX3) (T := TX3) (N := 13) hx hb hts in_X3_init_X3 tyX3 tyX3_ok nmX3 hown hK hP hD hS 0 rfl rfl 7 (by decide) (hts (.fieldLink RX3 21 "CallGraphs$Graph" "comes" "[J") (List.mem_of_getElem? (i := 8) rfl)) (fun _ h9 => h9) rfl hin rfl (tyX3_ok 7 (by decide)) rfl rfl (Nat.le_of_ble_eq_true rfl) dX3_init_33 (fun H locs hP hD hS => ?_)
  have hP : va_P D vwCl [(h0, .inr (2, [.null, .null, .null, .null, .ref q1, .ref q2, .ref q3, .ref q4, .null, .long 0, .long 0, .long 0, .int 0])), (q1, .inl (cJ, 4, .inr (.inl (fun _ => 0)))), (q2, .inl (cJ, 160, .inr (.inl (fun _ => 0)))), (q3, .inl (cJ, 48, .inr (.inl (fun _ => 0)))), (q4, .inl (cJ, 48, .inr (.inl (fun _ => 0))))] H := hP
  have hD : va_D A [(h0, .inr (2, [.null, .null, .null, .null, .ref q1, .ref q2, .ref q3, .ref q4, .null, .long 0, .long 0, .long 0, .int 0])), (q1, .inl (cJ, 4, .inr (.inl (fun _ => 0)))), (q2, .inl (cJ, 160, .inr (.inl (fun _ => 0)))), (q3, .inl (cJ, 48, .inr (.inl (fun _ => 0)))), (q4, .inl (cJ, 48, .inr (.inl (fun _ => 0))))] := hD
  refine lv_aload_n hx hb dX3_init_36 rfl (lv_at hl 0 rfl) ?_
  refine lv_bipush (v := 48) hx hb dX3_init_37 (by decide) ?_
  refine va_newa (atype := .long) (n := 48) (N' := 48) (a0 := (48, .inr (.inl (fun _ => 0)))) (ty := .long) hx hb (hts (.arrayClass .long) (List.mem_of_getElem? (i := 4) rfl)) rfl hK hP hD hS hA (fun _ => rfl) (by decide) (by decide) (by decide) (Nat.le_of_ble_eq_true rfl) (Nat.le_of_ble_eq_true rfl) dX3_init_39 (fun q5 cA5 H hK1 hP hD hS => ?_)
  refine W.widen (k := 5) (n := 308) (Nat.le_of_ble_eq_true rfl) (Nat.le_of_ble_eq_true rfl) ?_
  have e5 : cA5 = cJ := Option.some.inj ((va_nm_long (hK1.2 3 _ rfl).2).symm.trans (va_nm_long (hK.2 1 _ rfl).2))
  rw [e5] at hP hD
  have hP : va_P D vwCl [(h0, .inr (2, [.null, .null, .null, .null, .ref q1, .ref q2, .ref q3, .ref q4, .null, .long 0, .long 0, .long 0, .int 0])), (q1, .inl (cJ, 4, .inr (.inl (fun _ => 0)))), (q2, .inl (cJ, 160, .inr (.inl (fun _ => 0)))), (q3, .inl (cJ, 48, .inr (.inl (fun _ => 0)))), (q4, .inl (cJ, 48, .inr (.inl (fun _ => 0)))), (q5, .inl (cJ, 48, .inr (.inl (fun _ => 0))))] H := hP
  have hD : va_D A [(h0, .inr (2, [.null, .null, .null, .null, .ref q1, .ref q2, .ref q3, .ref q4, .null, .long 0, .long 0, .long 0, .int 0])), (q1, .inl (cJ, 4, .inr (.inl (fun _ => 0)))), (q2, .inl (cJ, 160, .inr (.inl (fun _ => 0)))), (q3, .inl (cJ, 48, .inr (.inl (fun _ => 0)))), (q4, .inl (cJ, 48, .inr (.inl (fun _ => 0)))), (q5, .inl (cJ, 48, .inr (.inl (fun _ => 0))))] := hD
  refine va_putF (D := D) (ci := 2) (v := .ref q5) (ty := tyX3 8) (C := RX3) (T := TX3) (N := 13) hx hb hts in_X3_init_X3 tyX3 tyX3_ok nmX3 hown hK hP hD hS 0 rfl rfl 8 (by decide) (hts (.fieldLink RX3 24 "CallGraphs$Graph" "layers" "[J") (List.mem_of_getElem? (i := 9) rfl)) (fun _ h9 => h9) rfl hin rfl (tyX3_ok 8 (by decide)) rfl rfl (Nat.le_of_ble_eq_true rfl) dX3_init_41 (fun H locs hP hD hS => ?_)
  have hP : va_P D vwCl [(h0, .inr (2, [.null, .null, .null, .null, .ref q1, .ref q2, .ref q3, .ref q4, .ref q5, .long 0, .long 0, .long 0, .int 0])), (q1, .inl (cJ, 4, .inr (.inl (fun _ => 0)))), (q2, .inl (cJ, 160, .inr (.inl (fun _ => 0)))), (q3, .inl (cJ, 48, .inr (.inl (fun _ => 0)))), (q4, .inl (cJ, 48, .inr (.inl (fun _ => 0)))), (q5, .inl (cJ, 48, .inr (.inl (fun _ => 0))))] H := hP
  have hD : va_D A [(h0, .inr (2, [.null, .null, .null, .null, .ref q1, .ref q2, .ref q3, .ref q4, .ref q5, .long 0, .long 0, .long 0, .int 0])), (q1, .inl (cJ, 4, .inr (.inl (fun _ => 0)))), (q2, .inl (cJ, 160, .inr (.inl (fun _ => 0)))), (q3, .inl (cJ, 48, .inr (.inl (fun _ => 0)))), (q4, .inl (cJ, 48, .inr (.inl (fun _ => 0)))), (q5, .inl (cJ, 48, .inr (.inl (fun _ => 0))))] := hD
  refine lv_aload_n hx hb dX3_init_44 rfl (lv_at hl 0 rfl) ?_
  refine lv_aload_n hx hb dX3_init_45 rfl (lv_at hl 1 rfl) ?_
  refine va_putF (D := D) (ci := 2) (v := .ref a1) (ty := tyX3 0) (C := RX3) (T := TX3) (N := 13) hx hb hts in_X3_init_X3 tyX3 tyX3_ok nmX3 hown hK hP hD hS 0 rfl rfl 0 (by decide) (hts (.fieldLink RX3 27 "CallGraphs$Graph" "types" "LCallGraphs$Types;") (List.mem_of_getElem? (i := 10) rfl)) (fun _ h9 => h9) rfl hin rfl (tyX3_ok 0 (by decide)) rfl rfl (Nat.le_of_ble_eq_true rfl) dX3_init_46 (fun H locs hP hD hS => ?_)
  have hP : va_P D vwCl [(h0, .inr (2, [.ref a1, .null, .null, .null, .ref q1, .ref q2, .ref q3, .ref q4, .ref q5, .long 0, .long 0, .long 0, .int 0])), (q1, .inl (cJ, 4, .inr (.inl (fun _ => 0)))), (q2, .inl (cJ, 160, .inr (.inl (fun _ => 0)))), (q3, .inl (cJ, 48, .inr (.inl (fun _ => 0)))), (q4, .inl (cJ, 48, .inr (.inl (fun _ => 0)))), (q5, .inl (cJ, 48, .inr (.inl (fun _ => 0))))] H := hP
  have hD : va_D A [(h0, .inr (2, [.ref a1, .null, .null, .null, .ref q1, .ref q2, .ref q3, .ref q4, .ref q5, .long 0, .long 0, .long 0, .int 0])), (q1, .inl (cJ, 4, .inr (.inl (fun _ => 0)))), (q2, .inl (cJ, 160, .inr (.inl (fun _ => 0)))), (q3, .inl (cJ, 48, .inr (.inl (fun _ => 0)))), (q4, .inl (cJ, 48, .inr (.inl (fun _ => 0)))), (q5, .inl (cJ, 48, .inr (.inl (fun _ => 0))))] := hD
  refine lv_aload_n hx hb dX3_init_49 rfl (lv_at hl 0 rfl) ?_
  refine lv_aload_n hx hb dX3_init_50 rfl (lv_at hl 2 rfl) ?_
  refine va_putF (D := D) (ci := 2) (v := .ref a2) (ty := tyX3 1) (C := RX3) (T := TX3) (N := 13) hx hb hts in_X3_init_X3 tyX3 tyX3_ok nmX3 hown hK hP hD hS 0 rfl rfl 1 (by decide) (hts (.fieldLink RX3 31 "CallGraphs$Graph" "members" "LCallGraphs$Members;") (List.mem_of_getElem? (i := 11) rfl)) (fun _ h9 => h9) rfl hin rfl (tyX3_ok 1 (by decide)) rfl rfl (Nat.le_of_ble_eq_true rfl) dX3_init_51 (fun H locs hP hD hS => ?_)
  have hP : va_P D vwCl [(h0, .inr (2, [.ref a1, .ref a2, .null, .null, .ref q1, .ref q2, .ref q3, .ref q4, .ref q5, .long 0, .long 0, .long 0, .int 0])), (q1, .inl (cJ, 4, .inr (.inl (fun _ => 0)))), (q2, .inl (cJ, 160, .inr (.inl (fun _ => 0)))), (q3, .inl (cJ, 48, .inr (.inl (fun _ => 0)))), (q4, .inl (cJ, 48, .inr (.inl (fun _ => 0)))), (q5, .inl (cJ, 48, .inr (.inl (fun _ => 0))))] H := hP
  have hD : va_D A [(h0, .inr (2, [.ref a1, .ref a2, .null, .null, .ref q1, .ref q2, .ref q3, .ref q4, .ref q5, .long 0, .long 0, .long 0, .int 0])), (q1, .inl (cJ, 4, .inr (.inl (fun _ => 0)))), (q2, .inl (cJ, 160, .inr (.inl (fun _ => 0)))), (q3, .inl (cJ, 48, .inr (.inl (fun _ => 0)))), (q4, .inl (cJ, 48, .inr (.inl (fun _ => 0)))), (q5, .inl (cJ, 48, .inr (.inl (fun _ => 0))))] := hD
  refine lv_aload_n hx hb dX3_init_54 rfl (lv_at hl 0 rfl) ?_
  refine lv_aload_n hx hb dX3_init_55 rfl (lv_at hl 3 rfl) ?_
  refine va_putF (D := D) (ci := 2) (v := .ref a3) (ty := tyX3 2) (C := RX3) (T := TX3) (N := 13) hx hb hts in_X3_init_X3 tyX3 tyX3_ok nmX3 hown hK hP hD hS 0 rfl rfl 2 (by decide) (hts (.fieldLink RX3 35 "CallGraphs$Graph" "choices" "LCallGraphs$Choices;") (List.mem_of_getElem? (i := 12) rfl)) (fun _ h9 => h9) rfl hin rfl (tyX3_ok 2 (by decide)) rfl rfl (Nat.le_of_ble_eq_true rfl) dX3_init_56 (fun H locs hP hD hS => ?_)
  have hP : va_P D vwCl [(h0, .inr (2, [.ref a1, .ref a2, .ref a3, .null, .ref q1, .ref q2, .ref q3, .ref q4, .ref q5, .long 0, .long 0, .long 0, .int 0])), (q1, .inl (cJ, 4, .inr (.inl (fun _ => 0)))), (q2, .inl (cJ, 160, .inr (.inl (fun _ => 0)))), (q3, .inl (cJ, 48, .inr (.inl (fun _ => 0)))), (q4, .inl (cJ, 48, .inr (.inl (fun _ => 0)))), (q5, .inl (cJ, 48, .inr (.inl (fun _ => 0))))] H := hP
  have hD : va_D A [(h0, .inr (2, [.ref a1, .ref a2, .ref a3, .null, .ref q1, .ref q2, .ref q3, .ref q4, .ref q5, .long 0, .long 0, .long 0, .int 0])), (q1, .inl (cJ, 4, .inr (.inl (fun _ => 0)))), (q2, .inl (cJ, 160, .inr (.inl (fun _ => 0)))), (q3, .inl (cJ, 48, .inr (.inl (fun _ => 0)))), (q4, .inl (cJ, 48, .inr (.inl (fun _ => 0)))), (q5, .inl (cJ, 48, .inr (.inl (fun _ => 0))))] := hD
  refine lv_aload_n hx hb dX3_init_59 rfl (lv_at hl 0 rfl) ?_
  refine lv_aload hx hb dX3_init_60 (lv_at hl 4 rfl) ?_
  refine va_putF (D := D) (ci := 2) (v := .ref a4) (ty := tyX3 3) (C := RX3) (T := TX3) (N := 13) hx hb hts in_X3_init_X3 tyX3 tyX3_ok nmX3 hown hK hP hD hS 0 rfl rfl 3 (by decide) (hts (.fieldLink RX3 39 "CallGraphs$Graph" "ops" "LCallGraphs$Ops;") (List.mem_of_getElem? (i := 13) rfl)) (fun _ h9 => h9) rfl hin rfl (tyX3_ok 3 (by decide)) rfl rfl (Nat.le_of_ble_eq_true rfl) dX3_init_62 (fun H locs hP hD hS => ?_)
  have hP : va_P D vwCl [(h0, .inr (2, [.ref a1, .ref a2, .ref a3, .ref a4, .ref q1, .ref q2, .ref q3, .ref q4, .ref q5, .long 0, .long 0, .long 0, .int 0])), (q1, .inl (cJ, 4, .inr (.inl (fun _ => 0)))), (q2, .inl (cJ, 160, .inr (.inl (fun _ => 0)))), (q3, .inl (cJ, 48, .inr (.inl (fun _ => 0)))), (q4, .inl (cJ, 48, .inr (.inl (fun _ => 0)))), (q5, .inl (cJ, 48, .inr (.inl (fun _ => 0))))] H := hP
  have hD : va_D A [(h0, .inr (2, [.ref a1, .ref a2, .ref a3, .ref a4, .ref q1, .ref q2, .ref q3, .ref q4, .ref q5, .long 0, .long 0, .long 0, .int 0])), (q1, .inl (cJ, 4, .inr (.inl (fun _ => 0)))), (q2, .inl (cJ, 160, .inr (.inl (fun _ => 0)))), (q3, .inl (cJ, 48, .inr (.inl (fun _ => 0)))), (q4, .inl (cJ, 48, .inr (.inl (fun _ => 0)))), (q5, .inl (cJ, 48, .inr (.inl (fun _ => 0))))] := hD
  exact W.vret hx hb hr (fun t ht hW => ⟨⟨(fun k => [q1, q2, q3, q4, q5].getD k 0), rfl, trivial, by rw [ht]; exact hP, hD⟩, hS.F ht⟩) hS.2.2 dX3_init_65 hlocks
theorem in_X2_init_X2 : ∀ w ∈ u_ws RX2 TX2 15, w ∈ wsX2_init := fun w h => List.mem_cons_of_mem _ (List.mem_append_right _ h)
set_option maxHeartbeats 4000000 in
set_option maxRecDepth 100000 in
theorem c_X2_init (l : Launch) (D : va_G) (cI cJ cZ : ClassId) (h0 a1 a2 a3 a4 sz : Nat) : Met l yX2_init wsX2_init ({ frames := 1, cells := 4, slots := 376, locals := 60 } : Room) (va_Pc [.ref h0, .ref a1, .ref a2, .ref a3, .ref a4] (fun U => U.heap.size = sz ∧ va_P D vwCl [(h0, .inr (1, [.null, .null, .null, .null, .null, .null, .null, .null, .long 0, .long 0, .long 0, .int 0, .int 0, .int 0, .int 0]))] U.heap ∧ va_K D vwCl (tyw cI cJ cZ) U ∧ va_D (fun _ => True) [(h0, .inr (1, [.null, .null, .null, .null, .null, .null, .null, .null, .long 0, .long 0, .long 0, .int 0, .int 0, .int 0, .int 0]))])) (va_Qv (fun _ : Nat → Nat => True) (fun u t => va_P D vwCl [(h0, .inr (1, [.ref a1, .ref a2, .ref a3, .ref a4, .ref (u 0), .ref (u 1), .ref (u 2), .ref (u 3), .long 0, .long 0, .long 0, .int 0, .int 0, .int 0, .int 0])), ((u 0), .inl (cI, 20, .inl (fun _ => 0))), ((u 1), .inl (cI, 192, .inl (fun _ => 0))), ((u 2), .inl (cI, 4, .inl (fun _ => 0))), ((u 3), .inl (cJ, 160, .inr (.inl (fun _ => 0))))] t.heap ∧ va_D (va_A [(h0, .inr (1, [.null, .null, .null, .null, .null, .null, .null, .null, .long 0, .long 0, .long 0, .int 0, .int 0, .int 0, .int 0]))] sz) [(h0, .inr (1, [.ref a1, .ref a2, .ref a3, .ref a4, .ref (u 0), .ref (u 1), .ref (u 2), .ref (u 3), .long 0, .long 0, .long 0, .int 0, .int 0, .int 0, .int 0])), ((u 0), .inl (cI, 20, .inl (fun _ => 0))), ((u 1), .inl (cI, 192, .inl (fun _ => 0))), ((u 2), .inl (cI, 4, .inl (fun _ => 0))), ((u 3), .inl (cJ, 160, .inr (.inl (fun _ => 0))))]) (va_A [(h0, .inr (1, [.null, .null, .null, .null, .null, .null, .null, .null, .long 0, .long 0, .long 0, .int 0, .int 0, .int 0, .int 0]))] sz)) 4 376 (va_A [(h0, .inr (1, [.null, .null, .null, .null, .null, .null, .null, .null, .long 0, .long 0, .long 0, .int 0, .int 0, .int 0, .int 0]))] sz) := by
  refine Met.ofW (cc := cX2_init) (maxL := 5) (ret := none) (by decide) rfl ?_
  intro p e s m args below meth c s₁ B hml hv
  obtain ⟨rfl, hsz, hP, hK, hD0⟩ := hv
  have hx := B.exec
  have hb := B.bytes
  have hr := B.returns
  have hts := atoms_spec (ws := wsX2_init) B.pre
  have hown : s.vm.findClass RX2 = some m.cls := findClass_of_methodNamed B.named
  have hlocks := B.notSynchronized
  have hin : meth.name = "<init>" := (name_of_methodNamed B.named B.method).1
  subst hsz
  have hD := hD0.self (sz := s.heap.size)
  generalize hAe : va_A [(h0, .inr (1, [.null, .null, .null, .null, .null, .null, .null, .null, .long 0, .long 0, .long 0, .int 0, .int 0, .int 0, .int 0]))] s.heap.size = A at hD ⊢
  have hA : ∀ q : Nat, s.heap.size ≤ q → A q := fun q h => by rw [← hAe]; exact Or.inr h
  have hS : va_S A s.heap s.heap [] := va_S.rf
  have hl := lv_entry ([.ref h0, .ref a1, .ref a2, .ref a3, .ref a4]) (n := 5) (Nat.le_of_ble_eq_true rfl)
  rw [lg_entry_eq]
  generalize (lg_sl ([.ref h0, .ref a1, .ref a2, .ref a3, .ref a4]) ++ List.replicate (5 - (lg_sl ([.ref h0, .ref a1, .ref a2, .ref a3, .ref a4])).length) Slot.unset).toArray = ls at hl ⊢
  have hl : lv_has ls 5 [(0, .ref h0), (1, .ref a1), (2, .ref a2), (3, .ref a3), (4, .ref a4)] := hl
  refine lv_aload_n hx hb dX2_init_0 rfl (lv_at hl 0 rfl) ?_
  refine W.objInit hx hb hown (hts (.methodLink RX2 3 objectInit) (List.mem_of_getElem? (i := 1) rfl)) (hts (.instanceMethod objectInit) (List.mem_of_getElem? (i := 2) rfl)) (hts (.code objectInit ⟨#[0xb1]⟩ 1 none) (List.mem_of_getElem? (i := 3) rfl)) rfl (by rw [hml]; exact hl.1) rfl dX2_init_1 (Nat.le_of_ble_eq_true rfl) (Nat.le_of_ble_eq_true rfl) ?_
  refine W.eq (g2 := F0 m 4 ls []) rfl ?_
  refine lv_aload_n hx hb dX2_init_4 rfl (lv_at hl 0 rfl) ?_
  refine lv_bipush (v := 20) hx hb dX2_init_5 (by decide) ?_
  refine va_newa (atype := .int) (n := 20) (N' := 20) (a0 := (20, .inl (fun _ => 0))) (ty := .int) hx hb (hts (.arrayClass .int) (List.mem_of_getElem? (i := 4) rfl)) rfl hK hP hD hS hA (fun _ => rfl) (by decide) (by decide) (by decide) (Nat.le_of_ble_eq_true rfl) (Nat.le_of_ble_eq_true rfl) dX2_init_7 (fun q1 cA1 H hK1 hP hD hS => ?_)
  refine W.widen (k := 1) (n := 20) (Nat.le_of_ble_eq_true rfl) (Nat.le_of_ble_eq_true rfl) ?_
  have e1 : cA1 = cI := Option.some.inj ((va_nm_int (hK1.2 3 _ rfl).2).symm.trans (va_nm_int (hK.2 0 _ rfl).2))
  rw [e1] at hP hD
  have hP : va_P D vwCl [(h0, .inr (1, [.null, .null, .null, .null, .null, .null, .null, .null, .long 0, .long 0, .long 0, .int 0, .int 0, .int 0, .int 0])), (q1, .inl (cI, 20, .inl (fun _ => 0)))] H := hP
  have hD : va_D A [(h0, .inr (1, [.null, .null, .null, .null, .null, .null, .null, .null, .long 0, .long 0, .long 0, .int 0, .int 0, .int 0, .int 0])), (q1, .inl (cI, 20, .inl (fun _ => 0)))] := hD
  refine va_putF (D := D) (ci := 1) (v := .ref q1) (ty := tyX2 4) (C := RX2) (T := TX2) (N := 15) hx hb hts in_X2_init_X2 tyX2 tyX2_ok nmX2 hown hK hP hD hS 0 rfl rfl 4 (by decide) (hts (.fieldLink RX2 9 "CallGraphs$DrawnRun" "pool" "[I") (List.mem_of_getElem? (i := 5) rfl)) (fun _ h9 => h9) rfl hin rfl (tyX2_ok 4 (by decide)) rfl rfl (Nat.le_of_ble_eq_true rfl) dX2_init_9 (fun H locs hP hD hS => ?_)
  have hP : va_P D vwCl [(h0, .inr (1, [.null, .null, .null, .null, .ref q1, .null, .null, .null, .long 0, .long 0, .long 0, .int 0, .int 0, .int 0, .int 0])), (q1, .inl (cI, 20, .inl (fun _ => 0)))] H := hP
  have hD : va_D A [(h0, .inr (1, [.null, .null, .null, .null, .ref q1, .null, .null, .null, .long 0, .long 0, .long 0, .int 0, .int 0, .int 0, .int 0])), (q1, .inl (cI, 20, .inl (fun _ => 0)))] := hD
  refine lv_aload_n hx hb dX2_init_12 rfl (lv_at hl 0 rfl) ?_
  refine lv_sipush (v := 192) hx hb dX2_init_13 (by decide) ?_
  refine va_newa (atype := .int) (n := 192) (N' := 192) (a0 := (192, .inl (fun _ => 0))) (ty := .int) hx hb (hts (.arrayClass .int) (List.mem_of_getElem? (i := 4) rfl)) rfl hK hP hD hS hA (fun _ => rfl) (by decide) (by decide) (by decide) (Nat.le_of_ble_eq_true rfl) (Nat.le_of_ble_eq_true rfl) dX2_init_16 (fun q2 cA2 H hK1 hP hD hS => ?_)
  refine W.widen (k := 2) (n := 212) (Nat.le_of_ble_eq_true rfl) (Nat.le_of_ble_eq_true rfl) ?_
  have e2 : cA2 = cI := Option.some.inj ((va_nm_int (hK1.2 3 _ rfl).2).symm.trans (va_nm_int (hK.2 0 _ rfl).2))
  rw [e2] at hP hD
  have hP : va_P D vwCl [(h0, .inr (1, [.null, .null, .null, .null, .ref q1, .null, .null, .null, .long 0, .long 0, .long 0, .int 0, .int 0, .int 0, .int 0])), (q1, .inl (cI, 20, .inl (fun _ => 0))), (q2, .inl (cI, 192, .inl (fun _ => 0)))] H := hP
  have hD : va_D A [(h0, .inr (1, [.null, .null, .null, .null, .ref q1, .null, .null, .null, .long 0, .long 0, .long 0, .int 0, .int 0, .int 0, .int 0])), (q1, .inl (cI, 20, .inl (fun _ => 0))), (q2, .inl (cI, 192, .inl (fun _ => 0)))] := hD
  refine va_putF (D := D) (ci := 1) (v := .ref q2) (ty := tyX2 5) (C := RX2) (T := TX2) (N := 15) hx hb hts in_X2_init_X2 tyX2 tyX2_ok nmX2 hown hK hP hD hS 0 rfl rfl 5 (by decide) (hts (.fieldLink RX2 15 "CallGraphs$DrawnRun" "bagged" "[I") (List.mem_of_getElem? (i := 6) rfl)) (fun _ h9 => h9) rfl hin rfl (tyX2_ok 5 (by decide)) rfl rfl (Nat.le_of_ble_eq_true rfl) dX2_init_18 (fun H locs hP hD hS => ?_)
  have hP : va_P D vwCl [(h0, .inr (1, [.null, .null, .null, .null, .ref q1, .ref q2, .null, .null, .long 0, .long 0, .long 0, .int 0, .int 0, .int 0, .int 0])), (q1, .inl (cI, 20, .inl (fun _ => 0))), (q2, .inl (cI, 192, .inl (fun _ => 0)))] H := hP
  have hD : va_D A [(h0, .inr (1, [.null, .null, .null, .null, .ref q1, .ref q2, .null, .null, .long 0, .long 0, .long 0, .int 0, .int 0, .int 0, .int 0])), (q1, .inl (cI, 20, .inl (fun _ => 0))), (q2, .inl (cI, 192, .inl (fun _ => 0)))] := hD
  refine lv_aload_n hx hb dX2_init_21 rfl (lv_at hl 0 rfl) ?_
  refine lv_iconst (v := 4) hx hb dX2_init_22 (by decide) ?_
  refine va_newa (atype := .int) (n := 4) (N' := 4) (a0 := (4, .inl (fun _ => 0))) (ty := .int) hx hb (hts (.arrayClass .int) (List.mem_of_getElem? (i := 4) rfl)) rfl hK hP hD hS hA (fun _ => rfl) (by decide) (by decide) (by decide) (Nat.le_of_ble_eq_true rfl) (Nat.le_of_ble_eq_true rfl) dX2_init_23 (fun q3 cA3 H hK1 hP hD hS => ?_)
  refine W.widen (k := 3) (n := 216) (Nat.le_of_ble_eq_true rfl) (Nat.le_of_ble_eq_true rfl) ?_
  have e3 : cA3 = cI := Option.some.inj ((va_nm_int (hK1.2 3 _ rfl).2).symm.trans (va_nm_int (hK.2 0 _ rfl).2))
  rw [e3] at hP hD
  have hP : va_P D vwCl [(h0, .inr (1, [.null, .null, .null, .null, .ref q1, .ref q2, .null, .null, .long 0, .long 0, .long 0, .int 0, .int 0, .int 0, .int 0])), (q1, .inl (cI, 20, .inl (fun _ => 0))), (q2, .inl (cI, 192, .inl (fun _ => 0))), (q3, .inl (cI, 4, .inl (fun _ => 0)))] H := hP
  have hD : va_D A [(h0, .inr (1, [.null, .null, .null, .null, .ref q1, .ref q2, .null, .null, .long 0, .long 0, .long 0, .int 0, .int 0, .int 0, .int 0])), (q1, .inl (cI, 20, .inl (fun _ => 0))), (q2, .inl (cI, 192, .inl (fun _ => 0))), (q3, .inl (cI, 4, .inl (fun _ => 0)))] := hD
  refine va_putF (D := D) (ci := 1) (v := .ref q3) (ty := tyX2 6) (C := RX2) (T := TX2) (N := 15) hx hb hts in_X2_init_X2 tyX2 tyX2_ok nmX2 hown hK hP hD hS 0 rfl rfl 6 (by decide) (hts (.fieldLink RX2 18 "CallGraphs$DrawnRun" "bagCounts" "[I") (List.mem_of_getElem? (i := 7) rfl)) (fun _ h9 => h9) rfl hin rfl (tyX2_ok 6 (by decide)) rfl rfl (Nat.le_of_ble_eq_true rfl) dX2_init_25 (fun H locs hP hD hS => ?_)
  have hP : va_P D vwCl [(h0, .inr (1, [.null, .null, .null, .null, .ref q1, .ref q2, .ref q3, .null, .long 0, .long 0, .long 0, .int 0, .int 0, .int 0, .int 0])), (q1, .inl (cI, 20, .inl (fun _ => 0))), (q2, .inl (cI, 192, .inl (fun _ => 0))), (q3, .inl (cI, 4, .inl (fun _ => 0)))] H := hP
  have hD : va_D A [(h0, .inr (1, [.null, .null, .null, .null, .ref q1, .ref q2, .ref q3, .null, .long 0, .long 0, .long 0, .int 0, .int 0, .int 0, .int 0])), (q1, .inl (cI, 20, .inl (fun _ => 0))), (q2, .inl (cI, 192, .inl (fun _ => 0))), (q3, .inl (cI, 4, .inl (fun _ => 0)))] := hD
  refine lv_aload_n hx hb dX2_init_28 rfl (lv_at hl 0 rfl) ?_
  refine lv_sipush (v := 160) hx hb dX2_init_29 (by decide) ?_
  refine va_newa (atype := .long) (n := 160) (N' := 160) (a0 := (160, .inr (.inl (fun _ => 0)))) (ty := .long) hx hb (hts (.arrayClass .long) (List.mem_of_getElem? (i := 8) rfl)) rfl hK hP hD hS hA (fun _ => rfl) (by decide) (by decide) (by decide) (Nat.le_of_ble_eq_true rfl) (Nat.le_of_ble_eq_true rfl) dX2_init_32 (fun q4 cA4 H hK1 hP hD hS => ?_)
  refine W.widen (k := 4) (n := 376) (Nat.le_of_ble_eq_true rfl) (Nat.le_of_ble_eq_true rfl) ?_
  have e4 : cA4 = cJ := Option.some.inj ((va_nm_long (hK1.2 3 _ rfl).2).symm.trans (va_nm_long (hK.2 1 _ rfl).2))
  rw [e4] at hP hD
  have hP : va_P D vwCl [(h0, .inr (1, [.null, .null, .null, .null, .ref q1, .ref q2, .ref q3, .null, .long 0, .long 0, .long 0, .int 0, .int 0, .int 0, .int 0])), (q1, .inl (cI, 20, .inl (fun _ => 0))), (q2, .inl (cI, 192, .inl (fun _ => 0))), (q3, .inl (cI, 4, .inl (fun _ => 0))), (q4, .inl (cJ, 160, .inr (.inl (fun _ => 0))))] H := hP
  have hD : va_D A [(h0, .inr (1, [.null, .null, .null, .null, .ref q1, .ref q2, .ref q3, .null, .long 0, .long 0, .long 0, .int 0, .int 0, .int 0, .int 0])), (q1, .inl (cI, 20, .inl (fun _ => 0))), (q2, .inl (cI, 192, .inl (fun _ => 0))), (q3, .inl (cI, 4, .inl (fun _ => 0))), (q4, .inl (cJ, 160, .inr (.inl (fun _ => 0))))] := hD
  refine va_putF (D := D) (ci := 1) (v := .ref q4) (ty := tyX2 7) (C := RX2) (T := TX2) (N := 15) hx hb hts in_X2_init_X2 tyX2 tyX2_ok nmX2 hown hK hP hD hS 0 rfl rfl 7 (by decide) (hts (.fieldLink RX2 21 "CallGraphs$DrawnRun" "tried" "[J") (List.mem_of_getElem? (i := 9) rfl)) (fun _ h9 => h9) rfl hin rfl (tyX2_ok 7 (by decide)) rfl rfl (Nat.le_of_ble_eq_true rfl) dX2_init_34 (fun H locs hP hD hS => ?_)
  have hP : va_P D vwCl [(h0, .inr (1, [.null, .null, .null, .null, .ref q1, .ref q2, .ref q3, .ref q4, .long 0, .long 0, .long 0, .int 0, .int 0, .int 0, .int 0])), (q1, .inl (cI, 20, .inl (fun _ => 0))), (q2, .inl (cI, 192, .inl (fun _ => 0))), (q3, .inl (cI, 4, .inl (fun _ => 0))), (q4, .inl (cJ, 160, .inr (.inl (fun _ => 0))))] H := hP
  have hD : va_D A [(h0, .inr (1, [.null, .null, .null, .null, .ref q1, .ref q2, .ref q3, .ref q4, .long 0, .long 0, .long 0, .int 0, .int 0, .int 0, .int 0])), (q1, .inl (cI, 20, .inl (fun _ => 0))), (q2, .inl (cI, 192, .inl (fun _ => 0))), (q3, .inl (cI, 4, .inl (fun _ => 0))), (q4, .inl (cJ, 160, .inr (.inl (fun _ => 0))))] := hD
  refine lv_aload_n hx hb dX2_init_37 rfl (lv_at hl 0 rfl) ?_
  refine lv_aload_n hx hb dX2_init_38 rfl (lv_at hl 1 rfl) ?_
  refine va_putF (D := D) (ci := 1) (v := .ref a1) (ty := tyX2 0) (C := RX2) (T := TX2) (N := 15) hx hb hts in_X2_init_X2 tyX2 tyX2_ok nmX2 hown hK hP hD hS 0 rfl rfl 0 (by decide) (hts (.fieldLink RX2 25 "CallGraphs$DrawnRun" "types" "LCallGraphs$Types;") (List.mem_of_getElem? (i := 10) rfl)) (fun _ h9 => h9) rfl hin rfl (tyX2_ok 0 (by decide)) rfl rfl (Nat.le_of_ble_eq_true rfl) dX2_init_39 (fun H locs hP hD hS => ?_)
  have hP : va_P D vwCl [(h0, .inr (1, [.ref a1, .null, .null, .null, .ref q1, .ref q2, .ref q3, .ref q4, .long 0, .long 0, .long 0, .int 0, .int 0, .int 0, .int 0])), (q1, .inl (cI, 20, .inl (fun _ => 0))), (q2, .inl (cI, 192, .inl (fun _ => 0))), (q3, .inl (cI, 4, .inl (fun _ => 0))), (q4, .inl (cJ, 160, .inr (.inl (fun _ => 0))))] H := hP
  have hD : va_D A [(h0, .inr (1, [.ref a1, .null, .null, .null, .ref q1, .ref q2, .ref q3, .ref q4, .long 0, .long 0, .long 0, .int 0, .int 0, .int 0, .int 0])), (q1, .inl (cI, 20, .inl (fun _ => 0))), (q2, .inl (cI, 192, .inl (fun _ => 0))), (q3, .inl (cI, 4, .inl (fun _ => 0))), (q4, .inl (cJ, 160, .inr (.inl (fun _ => 0))))] := hD
  refine lv_aload_n hx hb dX2_init_42 rfl (lv_at hl 0 rfl) ?_
  refine lv_aload_n hx hb dX2_init_43 rfl (lv_at hl 2 rfl) ?_
  refine va_putF (D := D) (ci := 1) (v := .ref a2) (ty := tyX2 1) (C := RX2) (T := TX2) (N := 15) hx hb hts in_X2_init_X2 tyX2 tyX2_ok nmX2 hown hK hP hD hS 0 rfl rfl 1 (by decide) (hts (.fieldLink RX2 29 "CallGraphs$DrawnRun" "members" "LCallGraphs$Members;") (List.mem_of_getElem? (i := 11) rfl)) (fun _ h9 => h9) rfl hin rfl (tyX2_ok 1 (by decide)) rfl rfl (Nat.le_of_ble_eq_true rfl) dX2_init_44 (fun H locs hP hD hS => ?_)
  have hP : va_P D vwCl [(h0, .inr (1, [.ref a1, .ref a2, .null, .null, .ref q1, .ref q2, .ref q3, .ref q4, .long 0, .long 0, .long 0, .int 0, .int 0, .int 0, .int 0])), (q1, .inl (cI, 20, .inl (fun _ => 0))), (q2, .inl (cI, 192, .inl (fun _ => 0))), (q3, .inl (cI, 4, .inl (fun _ => 0))), (q4, .inl (cJ, 160, .inr (.inl (fun _ => 0))))] H := hP
  have hD : va_D A [(h0, .inr (1, [.ref a1, .ref a2, .null, .null, .ref q1, .ref q2, .ref q3, .ref q4, .long 0, .long 0, .long 0, .int 0, .int 0, .int 0, .int 0])), (q1, .inl (cI, 20, .inl (fun _ => 0))), (q2, .inl (cI, 192, .inl (fun _ => 0))), (q3, .inl (cI, 4, .inl (fun _ => 0))), (q4, .inl (cJ, 160, .inr (.inl (fun _ => 0))))] := hD
  refine lv_aload_n hx hb dX2_init_47 rfl (lv_at hl 0 rfl) ?_
  refine lv_aload_n hx hb dX2_init_48 rfl (lv_at hl 3 rfl) ?_
  refine va_putF (D := D) (ci := 1) (v := .ref a3) (ty := tyX2 2) (C := RX2) (T := TX2) (N := 15) hx hb hts in_X2_init_X2 tyX2 tyX2_ok nmX2 hown hK hP hD hS 0 rfl rfl 2 (by decide) (hts (.fieldLink RX2 33 "CallGraphs$DrawnRun" "choices" "LCallGraphs$Choices;") (List.mem_of_getElem? (i := 12) rfl)) (fun _ h9 => h9) rfl hin rfl (tyX2_ok 2 (by decide)) rfl rfl (Nat.le_of_ble_eq_true rfl) dX2_init_49 (fun H locs hP hD hS => ?_)
  have hP : va_P D vwCl [(h0, .inr (1, [.ref a1, .ref a2, .ref a3, .null, .ref q1, .ref q2, .ref q3, .ref q4, .long 0, .long 0, .long 0, .int 0, .int 0, .int 0, .int 0])), (q1, .inl (cI, 20, .inl (fun _ => 0))), (q2, .inl (cI, 192, .inl (fun _ => 0))), (q3, .inl (cI, 4, .inl (fun _ => 0))), (q4, .inl (cJ, 160, .inr (.inl (fun _ => 0))))] H := hP
  have hD : va_D A [(h0, .inr (1, [.ref a1, .ref a2, .ref a3, .null, .ref q1, .ref q2, .ref q3, .ref q4, .long 0, .long 0, .long 0, .int 0, .int 0, .int 0, .int 0])), (q1, .inl (cI, 20, .inl (fun _ => 0))), (q2, .inl (cI, 192, .inl (fun _ => 0))), (q3, .inl (cI, 4, .inl (fun _ => 0))), (q4, .inl (cJ, 160, .inr (.inl (fun _ => 0))))] := hD
  refine lv_aload_n hx hb dX2_init_52 rfl (lv_at hl 0 rfl) ?_
  refine lv_aload hx hb dX2_init_53 (lv_at hl 4 rfl) ?_
  refine va_putF (D := D) (ci := 1) (v := .ref a4) (ty := tyX2 3) (C := RX2) (T := TX2) (N := 15) hx hb hts in_X2_init_X2 tyX2 tyX2_ok nmX2 hown hK hP hD hS 0 rfl rfl 3 (by decide) (hts (.fieldLink RX2 37 "CallGraphs$DrawnRun" "ops" "LCallGraphs$Ops;") (List.mem_of_getElem? (i := 13) rfl)) (fun _ h9 => h9) rfl hin rfl (tyX2_ok 3 (by decide)) rfl rfl (Nat.le_of_ble_eq_true rfl) dX2_init_55 (fun H locs hP hD hS => ?_)
  have hP : va_P D vwCl [(h0, .inr (1, [.ref a1, .ref a2, .ref a3, .ref a4, .ref q1, .ref q2, .ref q3, .ref q4, .long 0, .long 0, .long 0, .int 0, .int 0, .int 0, .int 0])), (q1, .inl (cI, 20, .inl (fun _ => 0))), (q2, .inl (cI, 192, .inl (fun _ => 0))), (q3, .inl (cI, 4, .inl (fun _ => 0))), (q4, .inl (cJ, 160, .inr (.inl (fun _ => 0))))] H := hP
  have hD : va_D A [(h0, .inr (1, [.ref a1, .ref a2, .ref a3, .ref a4, .ref q1, .ref q2, .ref q3, .ref q4, .long 0, .long 0, .long 0, .int 0, .int 0, .int 0, .int 0])), (q1, .inl (cI, 20, .inl (fun _ => 0))), (q2, .inl (cI, 192, .inl (fun _ => 0))), (q3, .inl (cI, 4, .inl (fun _ => 0))), (q4, .inl (cJ, 160, .inr (.inl (fun _ => 0))))] := hD
  exact W.vret hx hb hr (fun t ht hW => ⟨⟨(fun k => [q1, q2, q3, q4].getD k 0), rfl, trivial, by rw [ht]; exact hP, hD⟩, hS.F ht⟩) hS.2.2 dX2_init_58 hlocks
