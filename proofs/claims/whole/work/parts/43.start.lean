/-! from the entry to the loop -/
theorem in_L_X7 : ∀ w ∈ u_ws RX7 TX7 6, w ∈ wsL_law := fun w h => List.mem_append_left _ (List.mem_append_left _ (List.mem_append_left _ (List.mem_append_left _ (List.mem_append_left _ (List.mem_append_left _ (List.mem_append_left _ (List.mem_append_left _ (List.mem_append_right _ h))))))))
theorem in_L_X8 : ∀ w ∈ u_ws RX8 TX8 50, w ∈ wsL_law := fun w h => List.mem_append_left _ (List.mem_append_left _ (List.mem_append_left _ (List.mem_append_left _ (List.mem_append_left _ (List.mem_append_left _ (List.mem_append_left _ (List.mem_append_right _ h)))))))
theorem in_L_X6 : ∀ w ∈ u_ws RX6 TX6 6, w ∈ wsL_law := fun w h => List.mem_append_left _ (List.mem_append_left _ (List.mem_append_left _ (List.mem_append_left _ (List.mem_append_left _ (List.mem_append_left _ (List.mem_append_right _ h))))))
theorem in_L_X4 : ∀ w ∈ u_ws RX4 TX4 11, w ∈ wsL_law := fun w h => List.mem_append_left _ (List.mem_append_left _ (List.mem_append_left _ (List.mem_append_left _ (List.mem_append_left _ (List.mem_append_right _ h)))))
theorem in_L_X1 : ∀ w ∈ u_ws RX1 TX1 4, w ∈ wsL_law := fun w h => List.mem_append_left _ (List.mem_append_left _ (List.mem_append_left _ (List.mem_append_left _ (List.mem_append_right _ h))))
theorem in_L_X5 : ∀ w ∈ u_ws RX5 TX5 6, w ∈ wsL_law := fun w h => List.mem_append_left _ (List.mem_append_left _ (List.mem_append_left _ (List.mem_append_right _ h)))
theorem in_L_X3 : ∀ w ∈ u_ws RX3 TX3 13, w ∈ wsL_law := fun w h => List.mem_append_left _ (List.mem_append_left _ (List.mem_append_right _ h))
theorem in_L_X2 : ∀ w ∈ u_ws RX2 TX2 15, w ∈ wsL_law := fun w h => List.mem_append_left _ (List.mem_append_right _ h)
def s0M : SS := (fun _ _ => 0, fun _ _ => 0)
theorem ar_i {args : Array Value} {s : State} (h : (Cond.arrayClass .int).before args s = true) : ∃ cA : ClassId, ArrOfT s cA .int ∧ va_RA s cA .int := by
  obtain ⟨cA, kA, comp, h1, h2, h3⟩ := Cond.arrayClass_spec h
  exact ⟨cA, fun n z => ⟨fun k h => (by cases h), kA, h2, comp, h3⟩, h1⟩
theorem ar_l {args : Array Value} {s : State} (h : (Cond.arrayClass .long).before args s = true) : ∃ cA : ClassId, ArrOfT s cA .long ∧ va_RA s cA .long := by
  obtain ⟨cA, kA, comp, h1, h2, h3⟩ := Cond.arrayClass_spec h
  exact ⟨cA, fun n z => ⟨fun k h => (by cases h), kA, h2, comp, h3⟩, h1⟩
theorem ar_z {args : Array Value} {s : State} (h : (Cond.arrayClass .boolean).before args s = true) : ∃ cA : ClassId, ArrOfT s cA .boolean ∧ va_RA s cA .boolean := by
  obtain ⟨cA, kA, comp, h1, h2, h3⟩ := Cond.arrayClass_spec h
  exact ⟨cA, fun n z => ⟨fun k h => (by cases h), kA, h2, comp, h3⟩, h1⟩
/-- two lists of cells that lie apart -/
theorem wd_sep {A : Nat → Prop} {w1 w2 : va_W} (h : va_D A (w1 ++ w2)) {i j : Nat} {x y : Nat × va_E} (hx : w1[i]? = some x) (hy : w2[j]? = some y) : x.1 ≠ y.1 := by
  intro e
  have hi : i < w1.length := (List.getElem?_eq_some_iff.mp hx).1
  have h1 : (w1 ++ w2)[i]? = some x := by rw [List.getElem?_append_left hi]; exact hx
  have h2 : (w1 ++ w2)[w1.length + j]? = some y := by rw [List.getElem?_append_right (by omega)]; rw [show w1.length + j - w1.length = j by omega]; exact hy
  have := h.1 i (w1.length + j) x y h1 h2 e
  omega
theorem wd_ad {n : Nat} {ad : Nat → Nat} {w : va_W} (e : w.map (·.1) = (List.range n).map ad) {k : Nat} (hk : k < n) : ∃ x, w[k]? = some x ∧ x.1 = ad k := by
  have hl : w.length = n := by have := congrArg List.length e; simpa using this
  have h2 : w[k]? = some (w[k]'(by omega)) := List.getElem?_eq_getElem (by omega)
  refine ⟨_, h2, ?_⟩
  have h1 : (w.map (·.1))[k]? = some (w[k]'(by omega)).1 := by rw [List.getElem?_map, h2]; rfl
  rw [e, List.getElem?_map, List.getElem?_range hk] at h1
  exact (Option.some.inj h1).symm
theorem wd_ad' {n : Nat} {ad : Nat → Nat} {w : va_W} (e : w.map (·.1) = (List.range n).map ad) {k : Nat} {x : Nat × va_E} (hx : w[k]? = some x) : k < n ∧ x.1 = ad k := by
  have hl : w.length = n := by have := congrArg List.length e; simpa using this
  have hk : k < n := by have := (List.getElem?_eq_some_iff.mp hx).1; omega
  obtain ⟨y, hy, he⟩ := wd_ad e hk
  rw [hy] at hx
  cases hx
  exact ⟨hk, he⟩
set_option maxHeartbeats 4000000 in
set_option maxRecDepth 100000 in
theorem whole_of {p : Program} {e : Env} {s : State} {m : MethodId} {below : List Frame} {meth : Method} {c : Code} (l : Launch) {b L : Nat} {xs : Nat → Int32} (hpure : p_L_18 xs L 4096 0 s0C s0M = some 1) (C0 : lw_At p s m meth c b L xs) : W p l e room_1 s m #[Value.ref b] below meth c s.heap [] 0 0 (lw_Z below #[Value.ref b] s) (entryFrame m ([Value.ref b] : List Value).toArray 4) := by
  obtain ⟨hx, hb, hr, hml, hown, hts0, hX, hbl, hlocks, hgv⟩ := id C0
  have hts : ∀ w ∈ wsL_law, w.before #[Value.ref b] s = true := fun w h => hts0 w (wsL_law_in w h)
  have hA : ∀ q : Nat, s.heap.size ≤ q → (fun q : Nat => s.heap.size ≤ q) q := fun _ h => h
  have hbA : ¬ (fun q : Nat => s.heap.size ≤ q) b := Nat.not_le.mpr hbl
  have hN9 : va_Nw (.methodLinkNest RX7 9 yX6_init "CallGraphs") s := va_Nw.of rfl (hts0 (.methodLinkNest RX7 9 yX6_init "CallGraphs") (by decide +kernel))
  have hN36 : va_Nw (.methodLinkNest RX7 36 yX5_init "CallGraphs") s := va_Nw.of rfl (hts0 (.methodLinkNest RX7 36 yX5_init "CallGraphs") (by decide +kernel))
  obtain ⟨c0, iS0, hKn0⟩ := u_known (C := RX1) (T := TX1) (N := 4) (n := 4) hts in_L_X1 (hts (.instantiable RX1 4) (List.mem_of_getElem? (i := 22) rfl))
  obtain ⟨c1, iS1, hKn1⟩ := u_known (C := RX2) (T := TX2) (N := 15) (n := 15) hts in_L_X2 (hts (.instantiable RX2 15) (List.mem_of_getElem? (i := 34) rfl))
  obtain ⟨c2, iS2, hKn2⟩ := u_known (C := RX3) (T := TX3) (N := 13) (n := 13) hts in_L_X3 (hts (.instantiable RX3 13) (List.mem_of_getElem? (i := 30) rfl))
  obtain ⟨c3, iS3, hKn3⟩ := u_known (C := RX4) (T := TX4) (N := 11) (n := 11) hts in_L_X4 (hts (.instantiable RX4 11) (List.mem_of_getElem? (i := 18) rfl))
  obtain ⟨c4, iS4, hKn4⟩ := u_known (C := RX5) (T := TX5) (N := 6) (n := 6) hts in_L_X5 (hts (.instantiable RX5 6) (List.mem_of_getElem? (i := 26) rfl))
  obtain ⟨c5, iS5, hKn5⟩ := u_known (C := RX6) (T := TX6) (N := 6) (n := 6) hts in_L_X6 (hts (.instantiable RX6 6) (List.mem_of_getElem? (i := 14) rfl))
  obtain ⟨c6, iS6, hKn6⟩ := u_known (C := RX7) (T := TX7) (N := 6) (n := 6) hts in_L_X7 (hts (.instantiable RX7 6) (List.mem_of_getElem? (i := 1) rfl))
  obtain ⟨c7, iS7, hKn7⟩ := u_known (C := RX8) (T := TX8) (N := 50) (n := 50) hts in_L_X8 (hts (.instantiable RX8 50) (List.mem_of_getElem? (i := 4) rfl))
  obtain ⟨D, hKc⟩ : ∃ (D : va_G), ∀ (k : Nat) (q : vw_C), vwCl[k]? = some q → u_Kn s q.1 q.2.1 q.2.2 (D.1 k) (D.2 k) := by
    refine ⟨(fun k => if k = 0 then c0 else if k = 1 then c1 else if k = 2 then c2 else if k = 3 then c3 else if k = 4 then c4 else if k = 5 then c5 else if k = 6 then c6 else c7, fun k => if k = 0 then iS0 else if k = 1 then iS1 else if k = 2 then iS2 else if k = 3 then iS3 else if k = 4 then iS4 else if k = 5 then iS5 else if k = 6 then iS6 else iS7), ?_⟩
    intro k q hq
    match k, hq with
    | 0, hq => cases hq; exact hKn0
    | 1, hq => cases hq; exact hKn1
    | 2, hq => cases hq; exact hKn2
    | 3, hq => cases hq; exact hKn3
    | 4, hq => cases hq; exact hKn4
    | 5, hq => cases hq; exact hKn5
    | 6, hq => cases hq; exact hKn6
    | 7, hq => cases hq; exact hKn7
    | k + 8, hq => simp [vwCl] at hq
  obtain ⟨cI, hI1, hI2⟩ := ar_i (hts (.arrayClass .int) (List.mem_of_getElem? (i := 40) rfl))
  obtain ⟨cJ, hJ1, hJ2⟩ := ar_l (hts (.arrayClass .long) (List.mem_of_getElem? (i := 43) rfl))
  obtain ⟨cZ, hZ1, hZ2⟩ := ar_z (hts (.arrayClass .boolean) (List.mem_of_getElem? (i := 113) rfl))
  have hK : va_K D vwCl (tyw cI cJ cZ) s := ⟨hKc, fun k q h => by
    match k, h with
    | 0, h => cases h; exact ⟨hI1, hI2⟩
    | 1, h => cases h; exact ⟨hJ1, hJ2⟩
    | 2, h => cases h; exact ⟨hZ1, hZ2⟩
    | k + 3, h => simp [tyw] at h⟩
  have hS : va_S (fun q : Nat => s.heap.size ≤ q) s.heap s.heap [] := va_S.rf
  have hP : va_P D vwCl [] s.heap := fun k q h => by simp at h
  have hD : va_D (fun q : Nat => s.heap.size ≤ q) [] := ⟨fun i j p q h => by simp at h, fun k q h => by simp at h⟩
  have hl := lv_entry ([.ref b]) (n := 4) (Nat.le_of_ble_eq_true rfl)
  rw [lg_entry_eq]
  generalize (lg_sl ([.ref b]) ++ List.replicate (4 - (lg_sl ([.ref b])).length) Slot.unset).toArray = ls at hl ⊢
  have hl : lv_has ls 4 [(0, .ref b)] := hl
  refine va_new (ci := 6) (fs := [.null, .null, .null, .null, .null, .null]) (C := RX7) (T := TX7) (N := 6) hx hb hts in_L_X7 tyX7 tyX7_ok hown (hts (.classLink RL 7 RX7) (List.mem_of_getElem? (i := 0) rfl)) (hts (.instantiable RX7 6) (List.mem_of_getElem? (i := 1) rfl)) (hts (.initialized RX7) (List.mem_of_getElem? (i := 2) rfl)) hK hP hD hS hA rfl (fun j hj => by rcases (show j = 0 ∨ j = 1 ∨ j = 2 ∨ j = 3 ∨ j = 4 ∨ j = 5 by omega) with rfl | rfl | rfl | rfl | rfl | rfl <;> rfl) (Nat.le_of_ble_eq_true rfl) (Nat.le_of_ble_eq_true rfl) dL_law_0 (fun qC H hP hD hS => ?_)
  have hP : va_P D vwCl [(qC, .inr (6, [.null, .null, .null, .null, .null, .null]))] H := hP
  have hD : va_D (fun q : Nat => s.heap.size ≤ q) [(qC, .inr (6, [.null, .null, .null, .null, .null, .null]))] := hD
  refine W.widen (k := 1) (n := 6) (Nat.le_of_ble_eq_true rfl) (Nat.le_of_ble_eq_true rfl) ?_
  refine lv_dup hx hb dL_law_3 rfl ?_
  have hFc := va_free (wc := [(qC, .inr (6, [.null, .null, .null, .null, .null, .null]))]) hD hS hA [0] rfl
  refine va_callv (va_runI (As := []) (rest := [.ref qC]) ⟨hx, hb, hml, hown, hts⟩ (c_X7_init l D cI cJ cZ qC H.size) (cwI 0 hts gL_law_X7_init rfl rfl rfl (hts (.initialized RX7) (List.mem_of_getElem? (i := 2) rfl)) (hts (.methodLink RL 9 yX7_init) (List.mem_of_getElem? (i := 7) rfl)) (hts (.instanceMethod yX7_init) (List.mem_of_getElem? (i := 8) rfl)) rfl (by decide +kernel) ⟨Nat.le_of_ble_eq_true rfl, Nat.le_of_ble_eq_true rfl⟩) ⟨fun a U g mk q => by obtain ⟨q0, q1, qP, qK, qD, qN1, qN2⟩ := q; exact ⟨q0, q1, qP, va_K.moved (u := U) (U := U.calling g mk a) (Vm.Alike.refl U.vm) qK, qD, va_Nw.same rfl (rfl : U.vm = (U.calling g mk a).vm) qN1, va_Nw.same rfl (rfl : U.vm = (U.calling g mk a).vm) qN2⟩, fun U hU hW => ⟨rfl, by rw [hU], by rw [hU]; exact hP, va_K.moved hW.alike hK, hD.weaken (fun _ _ _ _ => trivial), va_Nw.warmM hW hN9, va_Nw.warmM hW hN36⟩⟩ rfl rfl hl.1 rfl (lv_room (Nat.le_of_ble_eq_true rfl)) dL_law_4 ⟨Nat.le_of_ble_eq_true rfl, Nat.le_of_ble_eq_true rfl⟩) hS (fun q _ h => hFc q h) hFc (fun uC t H1 locs ht hvm hw hB hz1 hk1 hS => ?_)
  obtain ⟨hP1, hD1⟩ := hB
  rw [ht] at hP1
  have hD2 : va_D (fun q : Nat => s.heap.size ≤ q) (wC uC cI cJ cZ s0C) := hD1.weaken (fun _ q _ h => hFc q.1 h)
  have hP2 := hP1
  have hS2 := hS
  clear hP1 hD1 hFc hk1
  generalize H1 = H at hP2 hS2 ⊢
  subst hw
  have hP := hP2
  have hD := hD2
  have hS := hS2
  refine W.widen (k := 33) (n := 3101) (Nat.le_of_ble_eq_true rfl) (Nat.le_of_ble_eq_true rfl) ?_
  refine lv_astore_n (lv' := [(1, .ref (uC 0)), (0, .ref b)]) hx hb dL_law_7 rfl hl (by decide) rfl (fun ls hl => ?_)
  refine va_new (ci := 7) (fs := [.int 0, .null, .null, .null, .null, .int 0, .null, .null, .null, .null, .null, .null, .int 0, .null, .null, .null, .int 0, .int 0, .null, .null, .null, .null, .null, .null, .null, .null, .int 0, .null, .null, .null, .null, .null, .null, .null, .null, .null, .null, .int 0, .long 0, .int 0, .int 0, .int 0, .int 0, .int 0, .null, .null, .null, .int 0, .null, .null]) (C := RX8) (T := TX8) (N := 50) hx hb hts in_L_X8 tyX8 tyX8_ok hown (hts (.classLink RL 10 RX8) (List.mem_of_getElem? (i := 3) rfl)) (hts (.instantiable RX8 50) (List.mem_of_getElem? (i := 4) rfl)) (hts (.initialized RX8) (List.mem_of_getElem? (i := 5) rfl)) hK hP hD hS hA rfl (fun j hj => by rcases (show j = 0 ∨ j = 1 ∨ j = 2 ∨ j = 3 ∨ j = 4 ∨ j = 5 ∨ j = 6 ∨ j = 7 ∨ j = 8 ∨ j = 9 ∨ j = 10 ∨ j = 11 ∨ j = 12 ∨ j = 13 ∨ j = 14 ∨ j = 15 ∨ j = 16 ∨ j = 17 ∨ j = 18 ∨ j = 19 ∨ j = 20 ∨ j = 21 ∨ j = 22 ∨ j = 23 ∨ j = 24 ∨ j = 25 ∨ j = 26 ∨ j = 27 ∨ j = 28 ∨ j = 29 ∨ j = 30 ∨ j = 31 ∨ j = 32 ∨ j = 33 ∨ j = 34 ∨ j = 35 ∨ j = 36 ∨ j = 37 ∨ j = 38 ∨ j = 39 ∨ j = 40 ∨ j = 41 ∨ j = 42 ∨ j = 43 ∨ j = 44 ∨ j = 45 ∨ j = 46 ∨ j = 47 ∨ j = 48 ∨ j = 49 by omega) with rfl | rfl | rfl | rfl | rfl | rfl | rfl | rfl | rfl | rfl | rfl | rfl | rfl | rfl | rfl | rfl | rfl | rfl | rfl | rfl | rfl | rfl | rfl | rfl | rfl | rfl | rfl | rfl | rfl | rfl | rfl | rfl | rfl | rfl | rfl | rfl | rfl | rfl | rfl | rfl | rfl | rfl | rfl | rfl | rfl | rfl | rfl | rfl | rfl | rfl <;> rfl) (Nat.le_of_ble_eq_true rfl) (Nat.le_of_ble_eq_true rfl) dL_law_8 (fun qM H hP hD hS => ?_)
  have hP : va_P D vwCl (wC uC cI cJ cZ s0C ++ [(qM, .inr (7, [.int 0, .null, .null, .null, .null, .int 0, .null, .null, .null, .null, .null, .null, .int 0, .null, .null, .null, .int 0, .int 0, .null, .null, .null, .null, .null, .null, .null, .null, .int 0, .null, .null, .null, .null, .null, .null, .null, .null, .null, .null, .int 0, .long 0, .int 0, .int 0, .int 0, .int 0, .int 0, .null, .null, .null, .int 0, .null, .null]))]) H := hP
  have hD : va_D (fun q : Nat => s.heap.size ≤ q) (wC uC cI cJ cZ s0C ++ [(qM, .inr (7, [.int 0, .null, .null, .null, .null, .int 0, .null, .null, .null, .null, .null, .null, .int 0, .null, .null, .null, .int 0, .int 0, .null, .null, .null, .null, .null, .null, .null, .null, .int 0, .null, .null, .null, .null, .null, .null, .null, .null, .null, .null, .int 0, .long 0, .int 0, .int 0, .int 0, .int 0, .int 0, .null, .null, .null, .int 0, .null, .null]))]) := hD
  refine W.widen (k := 34) (n := 3151) (Nat.le_of_ble_eq_true rfl) (Nat.le_of_ble_eq_true rfl) ?_
  refine lv_dup hx hb dL_law_11 rfl ?_
  have hPc : va_P D vwCl [(qM, .inr (7, [.int 0, .null, .null, .null, .null, .int 0, .null, .null, .null, .null, .null, .null, .int 0, .null, .null, .null, .int 0, .int 0, .null, .null, .null, .null, .null, .null, .null, .null, .int 0, .null, .null, .null, .null, .null, .null, .null, .null, .null, .null, .int 0, .long 0, .int 0, .int 0, .int 0, .int 0, .int 0, .null, .null, .null, .int 0, .null, .null]))] H := fun k x hx => by
    have h1 := (List.getElem?_eq_some_iff.mp hx).1
    simp at h1
    subst h1
    cases hx
    exact hP 33 _ rfl
  have hDc := hD.sub (ws' := [(qM, .inr (7, [.int 0, .null, .null, .null, .null, .int 0, .null, .null, .null, .null, .null, .null, .int 0, .null, .null, .null, .int 0, .int 0, .null, .null, .null, .null, .null, .null, .null, .null, .int 0, .null, .null, .null, .null, .null, .null, .null, .null, .null, .null, .int 0, .long 0, .int 0, .int 0, .int 0, .int 0, .int 0, .null, .null, .null, .int 0, .null, .null]))]) [33] (by decide) rfl
  have hFc := va_free (wc := [(qM, .inr (7, [.int 0, .null, .null, .null, .null, .int 0, .null, .null, .null, .null, .null, .null, .int 0, .null, .null, .null, .int 0, .int 0, .null, .null, .null, .null, .null, .null, .null, .null, .int 0, .null, .null, .null, .null, .null, .null, .null, .null, .null, .null, .int 0, .long 0, .int 0, .int 0, .int 0, .int 0, .int 0, .null, .null, .null, .int 0, .null, .null]))]) hD hS hA [33] rfl
  refine va_callv (va_runI (As := []) (rest := [.ref qM]) ⟨hx, hb, hml, hown, hts⟩ (c_X8_init l D cI cJ cZ qM H.size) (cwI 0 hts gL_law_X8_init rfl rfl rfl (hts (.initialized RX8) (List.mem_of_getElem? (i := 5) rfl)) (hts (.methodLink RL 12 yX8_init) (List.mem_of_getElem? (i := 102) rfl)) (hts (.instanceMethod yX8_init) (List.mem_of_getElem? (i := 103) rfl)) rfl (by decide +kernel) ⟨Nat.le_of_ble_eq_true rfl, Nat.le_of_ble_eq_true rfl⟩) ⟨fun a U g mk q => by obtain ⟨q0, q1, qP, qK, qD⟩ := q; exact ⟨q0, q1, qP, va_K.moved (u := U) (U := U.calling g mk a) (Vm.Alike.refl U.vm) qK, qD⟩, fun U hU hW => ⟨rfl, by rw [hU], by rw [hU]; exact hPc, va_K.moved hW.alike hK, hDc.weaken (fun _ _ _ _ => trivial)⟩⟩ rfl rfl hl.1 rfl (lv_room (Nat.le_of_ble_eq_true rfl)) dL_law_12 ⟨Nat.le_of_ble_eq_true rfl, Nat.le_of_ble_eq_true rfl⟩) hS (fun q _ h => hFc q h) hFc (fun u t H1 locs ht hvm hw hB hz1 hk1 hS => ?_)
  obtain ⟨hP1, hD1⟩ := hB
  rw [ht] at hP1
  obtain ⟨hP, hD⟩ := va_join (wr := wC uC cI cJ cZ s0C) (w1 := [(qM, .inr (7, [.int 0, .ref (u 0), .ref (u 1), .ref (u 2), .ref (u 3), .int 0, .ref (u 4), .ref (u 5), .ref (u 6), .ref (u 7), .ref (u 8), .ref (u 9), .int 0, .ref (u 10), .ref (u 11), .ref (u 12), .int 0, .int 0, .ref (u 13), .ref (u 14), .ref (u 15), .ref (u 16), .ref (u 17), .ref (u 18), .ref (u 19), .ref (u 20), .int 0, .ref (u 21), .ref (u 22), .ref (u 23), .ref (u 24), .ref (u 25), .ref (u 26), .ref (u 27), .ref (u 28), .ref (u 29), .ref (u 30), .int 0, .long 0, .int 0, .int 0, .int 0, .int 0, .int 0, .ref (u 31), .ref (u 32), .ref (u 33), .int 0, .ref (u 34), .ref (u 35)])), ((u 0), .inl (cI, 16, .inl (fun _ => 0))), ((u 1), .inl (cI, 16, .inl (fun _ => 0))), ((u 2), .inl (cI, 16, .inl (fun _ => 0))), ((u 3), .inl (cI, 48, .inl (fun _ => 0))), ((u 4), .inl (cI, 48, .inl (fun _ => 0))), ((u 5), .inl (cI, 48, .inl (fun _ => 0))), ((u 6), .inl (cI, 48, .inl (fun _ => 0))), ((u 7), .inl (cZ, 48, .inl (fun _ => 0))), ((u 8), .inl (cI, 48, .inl (fun _ => 0))), ((u 9), .inl (cI, 1152, .inl (fun _ => 0))), ((u 10), .inl (cI, 160, .inl (fun _ => 0))), ((u 11), .inl (cI, 160, .inl (fun _ => 0))), ((u 12), .inl (cI, 160, .inl (fun _ => 0))), ((u 13), .inl (cZ, 48, .inl (fun _ => 0))), ((u 14), .inl (cZ, 16, .inl (fun _ => 0))), ((u 15), .inl (cZ, 16, .inl (fun _ => 0))), ((u 16), .inl (cZ, 192, .inl (fun _ => 0))), ((u 17), .inl (cZ, 7680, .inl (fun _ => 0))), ((u 18), .inl (cI, 640, .inl (fun _ => 0))), ((u 19), .inl (cZ, 16, .inl (fun _ => 0))), ((u 20), .inl (cZ, 256, .inl (fun _ => 0))), ((u 21), .inl (cZ, 48, .inl (fun _ => 0))), ((u 22), .inl (cZ, 16, .inl (fun _ => 0))), ((u 23), .inl (cZ, 16, .inl (fun _ => 0))), ((u 24), .inl (cZ, 2304, .inl (fun _ => 0))), ((u 25), .inl (cZ, 2304, .inl (fun _ => 0))), ((u 26), .inl (cI, 48, .inl (fun _ => 0))), ((u 27), .inl (cI, 1000, .inl (fun _ => 0))), ((u 28), .inl (cI, 1000, .inl (fun _ => 0))), ((u 29), .inl (cI, 1000, .inl (fun _ => 0))), ((u 30), .inl (cI, 1000, .inl (fun _ => 0))), ((u 31), .inl (cZ, 48, .inl (fun _ => 0))), ((u 32), .inl (cZ, 16, .inl (fun _ => 0))), ((u 33), .inl (cI, 20, .inl (fun _ => 0))), ((u 34), .inl (cI, 192, .inl (fun _ => 0))), ((u 35), .inl (cI, 4, .inl (fun _ => 0)))]) hP hD [33] (List.range 33) rfl rfl (by decide) (by decide) hk1 hFc hP1 hD1
  generalize H1 = H at hP hS ⊢
  obtain ⟨uM, euM⟩ : ∃ z : Nat → Nat, z = (fun k => if k = 0 then qM else u (k - 1)) := ⟨_, rfl⟩
  have hP : va_P D vwCl (wC uC cI cJ cZ s0C ++ wM uM cI cJ cZ s0M) H := by rw [euM]; exact hP
  have hD : va_D (fun q : Nat => s.heap.size ≤ q) (wC uC cI cJ cZ s0C ++ wM uM cI cJ cZ s0M) := by rw [euM]; exact hD
  have hqM : qM = uM 0 := by rw [euM]; rfl
  refine W.widen (k := 70) (n := 22999) (Nat.le_of_ble_eq_true rfl) (Nat.le_of_ble_eq_true rfl) ?_
  refine lv_astore_n (lv' := [(2, .ref qM), (1, .ref (uC 0)), (0, .ref b)]) hx hb dL_law_15 rfl hl (by decide) rfl (fun ls hl => ?_)
  refine lv_iconst (v := 0) hx hb dL_law_16 (by decide) ?_
  refine lv_istore_n (lv' := [(3, .int 0), (2, .ref qM), (1, .ref (uC 0)), (0, .ref b)]) hx hb dL_law_17 rfl hl (by decide) rfl (fun ls hl => ?_)
  rw [hqM] at hl
  have hPC : va_P D vwCl (wC uC cI cJ cZ s0C) H := fun k x hx => hP k x (by rw [List.getElem?_append_left (List.getElem?_eq_some_iff.mp hx).1]; exact hx)
  have hPM : va_P D vwCl (wM uM cI cJ cZ s0M) H := fun k x hx => hP (33 + k) x (by rw [List.getElem?_append_right (show (wC uC cI cJ cZ s0C).length ≤ 33 + k from Nat.le_add_right 33 k)]; rw [show 33 + k - (wC uC cI cJ cZ s0C).length = k from Nat.add_sub_cancel_left 33 k]; exact hx)
  have hDC0 : va_D (fun q : Nat => s.heap.size ≤ q) (wC uC cI cJ cZ s0C) := ⟨fun i j x y hx hy => hD.1 i j x y (by rw [List.getElem?_append_left (List.getElem?_eq_some_iff.mp hx).1]; exact hx) (by rw [List.getElem?_append_left (List.getElem?_eq_some_iff.mp hy).1]; exact hy), fun k x hx => hD.2 k x (by rw [List.getElem?_append_left (List.getElem?_eq_some_iff.mp hx).1]; exact hx)⟩
  have hDM0 : va_D (fun q : Nat => s.heap.size ≤ q) (wM uM cI cJ cZ s0M) := by
    have at' : ∀ (k : Nat) (x : Nat × va_E), (wM uM cI cJ cZ s0M)[k]? = some x → (wC uC cI cJ cZ s0C ++ wM uM cI cJ cZ s0M)[33 + k]? = some x := fun k x hx => by
      rw [List.getElem?_append_right (show (wC uC cI cJ cZ s0C).length ≤ 33 + k from Nat.le_add_right 33 k)]; rw [show 33 + k - (wC uC cI cJ cZ s0C).length = k from Nat.add_sub_cancel_left 33 k]; exact hx
    exact ⟨fun i j x y hx hy hxy => by have := hD.1 (33 + i) (33 + j) x y (at' i x hx) (at' j y hy) hxy; omega, fun k x hx => hD.2 (33 + k) x (at' k x hx)⟩
  have hsep : ∀ i j, i < 33 → j < 37 → uC i ≠ uM j := fun i j hi hj => by
    obtain ⟨x, hx1, hx2⟩ := wd_ad (wC_map uC cI cJ cZ s0C) hi
    obtain ⟨y, hy1, hy2⟩ := wd_ad (wM_map uM cI cJ cZ s0M) hj
    have h9 := wd_sep hD hx1 hy1
    rw [hx2, hy2] at h9
    exact h9
  refine w_L_18 (adC := uC) (adM := uM) (D := D) (cI := cI) (cJ := cJ) (cZ := cZ) C0 hts ⟨Nat.le_of_ble_eq_true rfl, Nat.le_of_ble_eq_true rfl⟩ hK (fun σ => wd_D hDC0 (wC_map _ _ _ _ _) (wC_map _ _ _ _ _)) (fun σ => wd_D hDM0 (wM_map _ _ _ _ _) (wM_map _ _ _ _ _)) ?_ ?_ ?_ ?_ 4096 0 s0C s0M hpure _ _ _ hPC hPM hS (lv_sub hl [3, 2, 1, 0] rfl)
  · rintro q ⟨k, hk, rfl⟩
    obtain ⟨x, hx1, hx2⟩ := wd_ad (wC_map uC cI cJ cZ s0C) hk
    rw [← hx2]
    exact hDC0.2 k x hx1
  · rintro q ⟨k, hk, rfl⟩
    obtain ⟨x, hx1, hx2⟩ := wd_ad (wM_map uM cI cJ cZ s0M) hk
    rw [← hx2]
    exact hDM0.2 k x hx1
  · rintro τ k x hx ⟨i, hi, he⟩
    obtain ⟨hk, e1⟩ := wd_ad' (wM_map uM cI cJ cZ τ) hx
    exact hsep i k hi hk (by rw [← he, e1])
  · rintro σ k x hx ⟨i, hi, he⟩
    obtain ⟨hk, e1⟩ := wd_ad' (wC_map uC cI cJ cZ σ) hx
    exact hsep k i hk hi (by rw [← e1, he])
