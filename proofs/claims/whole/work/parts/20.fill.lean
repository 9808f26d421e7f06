/-- a state gets a name -/
def os {α : Type} (s : SS) (k : SS → Option α) : Option α := k s
theorem os_e {α : Type} {s : SS} {k : SS → Option α} {r : α} (h : os s k = some r) : ∃ z, z = s ∧ k z = some r := ⟨s, rfl, h⟩
/-! Arrays.fill, and its call over a world -/
theorem w_fillI {p : Program} {l : Launch} {e : Env} {R : Room} {s : State} {m : MethodId} {args : Array Value} {below : List Frame} {meth : Method} {c : Code} {D : va_G} {a n : Nat} {cA : ClassId} (hn : n < 2 ^ 31) {v : Int32} {f0 : Nat → Int32} (hm : mx p s m args meth c cJ7_fill_53178 4 none wsJ7_fill_53178 RJ7) (hK : va_K D vwCl [(cA, .int)] s) (hD : ∀ x, va_D (fun q => q = a) [(a, x)]) :
    ∀ (k i : Nat), i + k = n → ∀ (f : Nat → Int32), (∀ j, f j = if j < i then v else f0 j) → ∀ (H : Heap) (locs : List Loc) (ls : Array Slot), va_P D vwCl [(a, .inl (cA, n, .inl f))] H → va_S (fun q => q = a) s.heap H locs → lv_has ls 4 [(0, .ref a), (1, .int v), (2, .int (nI i)), (3, .int (nI n))] → W p l e R s m args below meth c H locs 0 0 (MQ below (va_Qv (fun _ : Unit => True) (fun _ t => va_P D vwCl [(a, .inl (cA, n, .inl (fun j => if j < n then v else f0 j)))] t.heap) (fun q => q = a)) args s 0 0 (fun q => q = a)) (F0 m 5 ls []) := by
  obtain ⟨hx, hb, hr, hml, hown, hts, hlk⟩ := hm
  intro k
  induction k with
  | zero =>
    intro i hi f hf H locs ls hP hS hl
    have hin : i = n := by omega
    subst hin
    have hff : f = (fun j => if j < i then v else f0 j) := funext hf
    rw [hff] at hP
    refine lv_iload_n hx hb dJ7_fill_53178_5 rfl (lv_at hl 2 rfl) ?_
    refine lv_iload_n hx hb dJ7_fill_53178_6 rfl (lv_at hl 3 rfl) ?_
    refine lv_icmp_ge (tgt := 20) hx hb dJ7_fill_53178_7 (by decide) (fun c_7 => ?_) (fun c_7 => ?_)
    · exact W.vret hx hb hr (fun t ht hW => ⟨⟨(), rfl, trivial, by show va_P D vwCl _ t.heap; rw [ht]; exact hP⟩, hS.F ht⟩) hS.2.2 dJ7_fill_53178_20 hlk
    · exact absurd (nI_le (Nat.le_refl i) hn) c_7
  | succ k ih =>
    intro i hi f hf H locs ls hP hS hl
    have hlt : i < n := by omega
    refine lv_iload_n hx hb dJ7_fill_53178_5 rfl (lv_at hl 2 rfl) ?_
    refine lv_iload_n hx hb dJ7_fill_53178_6 rfl (lv_at hl 3 rfl) ?_
    refine lv_icmp_ge (tgt := 20) hx hb dJ7_fill_53178_7 (by decide) (fun c_7 => ?_) (fun c_7 => ?_)
    · exact absurd c_7 (nI_ge hlt hn)
    · refine lv_aload_n hx hb dJ7_fill_53178_10 rfl (lv_at hl 0 rfl) ?_
      refine lv_iload_n hx hb dJ7_fill_53178_11 rfl (lv_at hl 2 rfl) ?_
      refine lv_iload_n hx hb dJ7_fill_53178_12 rfl (lv_at hl 1 rfl) ?_
      refine va_iast hx hb hK hP (hD _) hS 0 0 rfl rfl (vp_in_nI hlt hn) dJ7_fill_53178_13 (fun H locs hP _ hS => ?_)
      refine lv_iinc (v := nI (i + 1)) (lv' := [(2, .int (nI (i + 1))), (0, .ref a), (1, .int v), (3, .int (nI n))]) hx hb dJ7_fill_53178_14 hl (k := 2) rfl (nI_1 i) (by decide) rfl (fun ls hl => ?_)
      refine lv_goto (tgt := 5) hx hb dJ7_fill_53178_17 (by decide) ?_
      refine ih (i + 1) (by omega) (upd f (nI i).toNatClampNeg v) (fun j => ?_) _ _ _ hP hS (lv_sub hl [1, 2, 0, 3] rfl)
      rw [nI_clamp (by omega)]
      show (if j = i then v else f j) = _
      by_cases h1 : j = i
      · rw [if_pos h1, if_pos (by omega)]
      · rw [if_neg h1, hf j]
        by_cases h2 : j < i
        · rw [if_pos h2, if_pos (by omega)]
        · rw [if_neg h2, if_neg (by omega)]
theorem hd_J7_fill_53178 : yJ7_fill_53178.cls ≠ "java/lang/invoke/MethodHandle" ∧ yJ7_fill_53178.cls ≠ "java/lang/invoke/VarHandle" ∧ (parseMethodDescriptor yJ7_fill_53178.desc).map (fun d => d.parameters.length) = some 2 := by decide +kernel
theorem c_fillI (l : Launch) (D : va_G) (a : Nat) {n : Nat} (cA : ClassId) (hn : n < 2 ^ 31) (f : Nat → Int32) (v : Int32) : Met l yJ7_fill_53178 wsJ7_fill_53178 ({ frames := 0, cells := 0, slots := 0, locals := 0 } : Room) (va_Pc [.ref a, .int v] (fun U => va_P D vwCl [(a, .inl (cA, n, .inl f))] U.heap ∧ va_K D vwCl [(cA, .int)] U)) (va_Qv (fun _ : Unit => True) (fun _ t => va_P D vwCl [(a, .inl (cA, n, .inl (fun j => if j < n then v else f j)))] t.heap) (fun q => q = a)) 0 0 (fun q => q = a) := by
  refine Met.ofW (cc := cJ7_fill_53178) (maxL := 4) (ret := none) (by decide) rfl ?_
  intro p e s m args below meth c s₁ B hml hv
  obtain ⟨rfl, hP, hK⟩ := hv
  have hm : mx p s m _ meth c cJ7_fill_53178 4 none wsJ7_fill_53178 RJ7 := ⟨B.exec, B.bytes, B.returns, hml, findClass_of_methodNamed B.named, atoms_spec (ws := wsJ7_fill_53178) B.pre, B.notSynchronized⟩
  have hD : ∀ x, va_D (fun q => q = a) [(a, x)] := fun x => ⟨fun i j p q hp hq _ => by
      have h1 := (List.getElem?_eq_some_iff.mp hp).1
      have h2 := (List.getElem?_eq_some_iff.mp hq).1
      simp at h1 h2
      omega, fun k q hk => by
      have h1 := (List.getElem?_eq_some_iff.mp hk).1
      simp at h1
      subst h1
      cases hk
      rfl⟩
  have hl := lv_entry ([.ref a, .int v]) (n := 4) (Nat.le_of_ble_eq_true rfl)
  rw [lg_entry_eq]
  generalize (lg_sl ([.ref a, .int v]) ++ List.replicate (4 - (lg_sl ([.ref a, .int v])).length) Slot.unset).toArray = ls at hl ⊢
  have hl : lv_has ls 4 [(0, .ref a), (1, .int v)] := hl
  obtain ⟨hx, hb, hr, hml, hown, hts, hlk⟩ := id hm
  refine lv_iconst (v := nI 0) hx hb dJ7_fill_53178_0 (by decide) ?_
  refine lv_istore_n (lv' := [(2, .int (nI 0)), (0, .ref a), (1, .int v)]) hx hb dJ7_fill_53178_1 rfl hl (by decide) rfl (fun ls hl => ?_)
  refine lv_aload_n hx hb dJ7_fill_53178_2 rfl (lv_at hl 1 rfl) ?_
  refine va_alen hx hb hK hP 0 0 rfl rfl (v := nI n) rfl dJ7_fill_53178_3 ?_
  refine lv_istore_n (lv' := [(3, .int (nI n)), (2, .int (nI 0)), (0, .ref a), (1, .int v)]) hx hb dJ7_fill_53178_4 rfl hl (by decide) rfl (fun ls hl => ?_)
  exact w_fillI hn hm hK hD n 0 (by omega) f (fun j => by rw [if_neg (by omega)]) _ _ _ hP va_S.rf (lv_sub hl [2, 3, 1, 0] rfl)
theorem w_fillL {p : Program} {l : Launch} {e : Env} {R : Room} {s : State} {m : MethodId} {args : Array Value} {below : List Frame} {meth : Method} {c : Code} {D : va_G} {a n : Nat} {cA : ClassId} (hn : n < 2 ^ 31) {v : Int64} {f0 : Nat → Int64} (hm : mx p s m args meth c cJ7_fill_d0a16 5 none wsJ7_fill_d0a16 RJ7) (hK : va_K D vwCl [(cA, .long)] s) (hD : ∀ x, va_D (fun q => q = a) [(a, x)]) :
    ∀ (k i : Nat), i + k = n → ∀ (f : Nat → Int64), (∀ j, f j = if j < i then v else f0 j) → ∀ (H : Heap) (locs : List Loc) (ls : Array Slot), va_P D vwCl [(a, .inl (cA, n, .inr (.inl f)))] H → va_S (fun q => q = a) s.heap H locs → lv_has ls 5 [(0, .ref a), (1, .long v), (3, .int (nI i)), (4, .int (nI n))] → W p l e R s m args below meth c H locs 0 0 (MQ below (va_Qv (fun _ : Unit => True) (fun _ t => va_P D vwCl [(a, .inl (cA, n, .inr (.inl (fun j => if j < n then v else f0 j))))] t.heap) (fun q => q = a)) args s 0 0 (fun q => q = a)) (F0 m 6 ls []) := by
  obtain ⟨hx, hb, hr, hml, hown, hts, hlk⟩ := hm
  intro k
  induction k with
  | zero =>
    intro i hi f hf H locs ls hP hS hl
    have hin : i = n := by omega
    subst hin
    have hff : f = (fun j => if j < i then v else f0 j) := funext hf
    rw [hff] at hP
    refine lv_iload_n hx hb dJ7_fill_d0a16_6 rfl (lv_at hl 2 rfl) ?_
    refine lv_iload hx hb dJ7_fill_d0a16_7 (lv_at hl 3 rfl) ?_
    refine lv_icmp_ge (tgt := 22) hx hb dJ7_fill_d0a16_9 (by decide) (fun c_7 => ?_) (fun c_7 => ?_)
    · exact W.vret hx hb hr (fun t ht hW => ⟨⟨(), rfl, trivial, by show va_P D vwCl _ t.heap; rw [ht]; exact hP⟩, hS.F ht⟩) hS.2.2 dJ7_fill_d0a16_22 hlk
    · exact absurd (nI_le (Nat.le_refl i) hn) c_7
  | succ k ih =>
    intro i hi f hf H locs ls hP hS hl
    have hlt : i < n := by omega
    refine lv_iload_n hx hb dJ7_fill_d0a16_6 rfl (lv_at hl 2 rfl) ?_
    refine lv_iload hx hb dJ7_fill_d0a16_7 (lv_at hl 3 rfl) ?_
    refine lv_icmp_ge (tgt := 22) hx hb dJ7_fill_d0a16_9 (by decide) (fun c_7 => ?_) (fun c_7 => ?_)
    · exact absurd c_7 (nI_ge hlt hn)
    · refine lv_aload_n hx hb dJ7_fill_d0a16_12 rfl (lv_at hl 0 rfl) ?_
      refine lv_iload_n hx hb dJ7_fill_d0a16_13 rfl (lv_at hl 2 rfl) ?_
      refine lv_lload_n hx hb dJ7_fill_d0a16_14 rfl (lv_at hl 1 rfl) ?_
      refine va_last hx hb hK hP (hD _) hS 0 0 rfl rfl (vp_in_nI hlt hn) dJ7_fill_d0a16_15 (fun H locs hP _ hS => ?_)
      refine lv_iinc (v := nI (i + 1)) (lv' := [(3, .int (nI (i + 1))), (0, .ref a), (1, .long v), (4, .int (nI n))]) hx hb dJ7_fill_d0a16_16 hl (k := 2) rfl (nI_1 i) (by decide) rfl (fun ls hl => ?_)
      refine lv_goto (tgt := 6) hx hb dJ7_fill_d0a16_19 (by decide) ?_
      refine ih (i + 1) (by omega) (vp_updL f (nI i).toNatClampNeg v) (fun j => ?_) _ _ _ hP hS (lv_sub hl [1, 2, 0, 3] rfl)
      rw [nI_clamp (by omega)]
      show (if j = i then v else f j) = _
      by_cases h1 : j = i
      · rw [if_pos h1, if_pos (by omega)]
      · rw [if_neg h1, hf j]
        by_cases h2 : j < i
        · rw [if_pos h2, if_pos (by omega)]
        · rw [if_neg h2, if_neg (by omega)]
theorem hd_J7_fill_d0a16 : yJ7_fill_d0a16.cls ≠ "java/lang/invoke/MethodHandle" ∧ yJ7_fill_d0a16.cls ≠ "java/lang/invoke/VarHandle" ∧ (parseMethodDescriptor yJ7_fill_d0a16.desc).map (fun d => d.parameters.length) = some 2 := by decide +kernel
theorem c_fillL (l : Launch) (D : va_G) (a : Nat) {n : Nat} (cA : ClassId) (hn : n < 2 ^ 31) (f : Nat → Int64) (v : Int64) : Met l yJ7_fill_d0a16 wsJ7_fill_d0a16 ({ frames := 0, cells := 0, slots := 0, locals := 0 } : Room) (va_Pc [.ref a, .long v] (fun U => va_P D vwCl [(a, .inl (cA, n, .inr (.inl f)))] U.heap ∧ va_K D vwCl [(cA, .long)] U)) (va_Qv (fun _ : Unit => True) (fun _ t => va_P D vwCl [(a, .inl (cA, n, .inr (.inl (fun j => if j < n then v else f j))))] t.heap) (fun q => q = a)) 0 0 (fun q => q = a) := by
  refine Met.ofW (cc := cJ7_fill_d0a16) (maxL := 5) (ret := none) (by decide) rfl ?_
  intro p e s m args below meth c s₁ B hml hv
  obtain ⟨rfl, hP, hK⟩ := hv
  have hm : mx p s m _ meth c cJ7_fill_d0a16 5 none wsJ7_fill_d0a16 RJ7 := ⟨B.exec, B.bytes, B.returns, hml, findClass_of_methodNamed B.named, atoms_spec (ws := wsJ7_fill_d0a16) B.pre, B.notSynchronized⟩
  have hD : ∀ x, va_D (fun q => q = a) [(a, x)] := fun x => ⟨fun i j p q hp hq _ => by
      have h1 := (List.getElem?_eq_some_iff.mp hp).1
      have h2 := (List.getElem?_eq_some_iff.mp hq).1
      simp at h1 h2
      omega, fun k q hk => by
      have h1 := (List.getElem?_eq_some_iff.mp hk).1
      simp at h1
      subst h1
      cases hk
      rfl⟩
  have hl := lv_entry ([.ref a, .long v]) (n := 5) (Nat.le_of_ble_eq_true rfl)
  rw [lg_entry_eq]
  generalize (lg_sl ([.ref a, .long v]) ++ List.replicate (5 - (lg_sl ([.ref a, .long v])).length) Slot.unset).toArray = ls at hl ⊢
  have hl : lv_has ls 5 [(0, .ref a), (1, .long v)] := hl
  obtain ⟨hx, hb, hr, hml, hown, hts, hlk⟩ := id hm
  refine lv_iconst (v := nI 0) hx hb dJ7_fill_d0a16_0 (by decide) ?_
  refine lv_istore_n (lv' := [(3, .int (nI 0)), (0, .ref a), (1, .long v)]) hx hb dJ7_fill_d0a16_1 rfl hl (by decide) rfl (fun ls hl => ?_)
  refine lv_aload_n hx hb dJ7_fill_d0a16_2 rfl (lv_at hl 1 rfl) ?_
  refine va_alen hx hb hK hP 0 0 rfl rfl (v := nI n) rfl dJ7_fill_d0a16_3 ?_
  refine lv_istore (lv' := [(4, .int (nI n)), (3, .int (nI 0)), (0, .ref a), (1, .long v)]) hx hb dJ7_fill_d0a16_4 hl (by decide) rfl (fun ls hl => ?_)
  exact w_fillL hn hm hK hD n 0 (by omega) f (fun j => by rw [if_neg (by omega)]) _ _ _ hP va_S.rf (lv_sub hl [2, 3, 1, 0] rfl)
section RowFill
variable {p : Program} {l : Launch} {e : Env} {R : Room} {s : State} {m : MethodId} {args : Array Value} {below : List Frame} {meth : Method} {c : Code} {H H0 : Heap} {locs : List Loc} {cells slots : Nat} {Q : State → Prop}
variable {pc : Nat} {ls : Array Slot} {rest st0 As : List Value} {D : va_G} {tys tys1 : List (ClassId × FieldType)} {ws ws' : va_W} {A : Nat → Prop}
variable {y : MethodName} {bytes cc : ByteArray} {maxL nL n index : Nat} {ret : Option FieldType} {wsy : List Cond} {rm : Room} {Ts : List Cond} {own : String} {a q0 : Nat} {x x' : va_E}
theorem mF (S : CallFix p m c cc nL s args Ts own) (hK : va_K D vwCl tys s) (hP : va_P D vwCl ws H) (hD : va_D A ws) (hS : va_S A H0 H locs) (he : ws[q0]? = some (a, x)) (hset : ws.set q0 (a, x') = ws')
    (hM : Met l y wsy rm (va_Pc As (fun U => va_P D vwCl [(a, x)] U.heap ∧ va_K D vwCl tys1 U)) (va_Qv (fun _ : Unit => True) (fun _ t => va_P D vwCl [(a, x')] t.heap) (fun q => q = a)) 0 0 (fun q => q = a)) (t0 : Nat) (ht : [t0].filterMap (fun i => tys[i]?) = tys1) (cw : CallB R s args own index y bytes maxL ret wsy rm 0 0 n ∧ (Cond.static y).before args s = true)
    (hn : As.length = n) (hsz : ls.size = nL) (hst : st0 = As.reverse ++ rest) (hW : (rest.map fun v => v.category).sum ≤ 8) (hdg : decode cc pc = .ok (.invokestatic index, 3)) (hf : cells ≤ R.cells ∧ slots ≤ R.slots)
    (kk : ∀ (H1 : Heap) (locs1 : List Loc), va_P D vwCl ws' H1 → va_S A H0 H1 locs1 → W p l e R s m args below meth c H1 locs1 cells slots Q (F0 m (pc + 3) ls rest)) : W p l e R s m args below meth c H locs cells slots Q (F0 m pc ls st0) := by
  have hAa : A a := hD.2 q0 _ he
  have hp : PreS s H (va_Pc As (fun U => va_P D vwCl [(a, x)] U.heap ∧ va_K D vwCl tys1 U)) As := ⟨fun a0 U g mk q => by
      obtain ⟨z0, z1, z2⟩ := q
      exact ⟨z0, z1, va_K.moved (u := U) (U := U.calling g mk a0) (Vm.Alike.refl U.vm) z2⟩, fun U hU hW => ⟨rfl, by
      show va_P D vwCl [(a, x)] U.heap
      rw [hU]
      intro k z hk
      have h1 := (List.getElem?_eq_some_iff.mp hk).1
      simp at h1
      subst h1
      cases hk
      exact hP q0 _ he, (va_K.moved hW.alike hK).sub [t0] ht⟩⟩
  refine va_callv (va_runS S hM cw hp rfl hn hsz hst (lv_room hW) hdg hf) hS (fun q _ h => by rw [h]; exact hAa) (fun q h => by rw [h]; exact hAa) (fun u t H1 locs1 ht hvm hw hB hz hk hS => ?_)
  refine kk H1 locs1 ?_ hS
  rw [← hset]
  have hB : va_P D vwCl [(a, x')] t.heap := hB
  rw [ht] at hB
  have hlq := (List.getElem?_eq_some_iff.mp he).1
  intro k z hkz
  by_cases hkq : k = q0
  · subst hkq
    rw [List.getElem?_set_self hlq] at hkz
    cases hkz
    exact hB 0 _ rfl
  · rw [List.getElem?_set_ne (fun h => hkq h.symm)] at hkz
    refine (hP k z hkz).kept (hk z.1 ((hP k z hkz).lt) (fun h => ?_))
    exact hkq (hD.1 k q0 z (a, x) hkz he h)
end RowFill
