/-! THE CLAIM OUT OF ONE WALK OF THE LAW'S BODY. Your part is whole_start (and what it stands on); all else here is the same for every law, but numbers. -/
def R_law : String := "CallGraphsLaw"
def lw_P (b : Addr) (xs : List Int32) (args : Array Value) (s : State) : Prop := args = #[.ref b] ∧ s.IntsAt b xs ∧ xs.length ≤ 2560 ∧ (Jvm.Cond.and given_1 narrow_1).before args s = true
def lw_Q (_ : Array Value) (s : State) (o : Outcome) (t : State) : Prop := o = .returned (some (.int 1)) ∧ Framed s o t [] 600000 7302249
def lw_Z (below : List Frame) (a : Array Value) (s : State) : State → Prop := fun t => ∃ o, t.status = .running ∧ Ended t below o ∧ lw_Q a s o t
/-- the law's own end, with 1 on the stack, nothing written that was there before, its room as the claim has it -/
theorem lw_ret {p : Program} {l : Launch} {e : Env} {s : State} {m : MethodId} {below : List Frame} {meth : Method} {c : Code} {b : Nat} (hx : p.tables.exec = Jvm.exec) (hb : c.code = code) (hr : meth.sig.returnType = ret) (hlocks : meth.locks = false) {pc : Nat} {H : Heap} {ls : Array Slot} (hdg : decode code pc = .ok (.ireturn, 1)) : W p l e room_1 s m #[Value.ref b] below meth c H [] 600000 7302249 (lw_Z below #[Value.ref b] s) (F0 m pc ls [.int 1]) := by
  intro T hT X
  obtain ⟨fs, hret, hrun, hended, hW, hframe⟩ := X.leave (v := some (.int 1)) (hlocks := hlocks) (fun h => by rw [hr] at h; cases h)
  have hmeth' : T.vm.method? m = some meth := X.method'
  refine ⟨T.setFrames fs, ?_, .returned (some (.int 1)), hrun, hended, rfl, ⟨_, rfl⟩, hW, hframe⟩
  jvm_step X.here [X.here.top, hx, hb, hdg, hmeth', hr, ret, narrow_b1]
  (try refine ⟨rfl, ?_⟩); (try refine ⟨rfl, ?_⟩)
  first | (intro acts; rw [hret _ acts rfl rfl rfl]) | rw [hret _ _ rfl rfl rfl]
  exact Steps.refl _
/-- what holds at the law's entry: the machine, the code, the tables' words (any of lw_tbl by 'hts w (by decide +kernel)'), the script of L ints xs at the cell b, what the Statement gives of the start (any of its parts by flat_of_before) -/
def lw_At (p : Program) (s : State) (m : MethodId) (meth : Method) (c : Code) (b L : Nat) (xs : Nat → Int32) : Prop :=
  p.tables.exec = Jvm.exec ∧ c.code = code ∧ meth.sig.returnType = ret ∧ c.maxLocals = 4 ∧ s.vm.findClass R_law = some m.cls ∧ (∀ w ∈ lw_tbl, w.before #[Value.ref b] s = true) ∧ va_X b L xs s s.heap ∧ b < s.heap.size ∧ meth.locks = false ∧ (Jvm.Cond.and given_1 narrow_1).before #[Value.ref b] s = true
/-! rows for a call out of the law: two worlds, one is called, the other stays -/
section RowsOfLaw
variable {p : Program} {l : Launch} {e : Env} {R : Room} {s : State} {m : MethodId} {args : Array Value} {below : List Frame} {meth : Method} {c : Code} {H : Heap} {locs : List Loc} {cells slots : Nat} {Q : State → Prop}
variable {pc : Nat} {ls : Array Slot} {rest st0 As : List Value} {D : va_G} {tys : List (ClassId × FieldType)} {wd : SS → va_W} {w2 : va_W} {A A1 : Nat → Prop} {σ : SS}
variable {y : MethodName} {bytes cc : ByteArray} {maxL nL n index : Nat} {ret : Option FieldType} {wsy : List Cond} {rm : Room} {Ts : List Cond} {own C : String} {b : Addr} {T : u_T} {N ci q0 : Nat} {fs : List Value}
theorem mL_ri {r0 : Int32} (S : CallFix p m c cc nL s args Ts own) (hK : va_K D vwCl tys s) (hP : va_P D vwCl (wd σ) H) (hP2 : va_P D vwCl w2 H) (hD : va_D A1 (wd σ)) (hA : ∀ q, A1 q → A q) (hsep : ∀ (k : Nat) (x : Nat × va_E), w2[k]? = some x → ¬ A1 x.1) (hS : va_S A s.heap H locs)
    (hM : Met l y wsy rm (PW D tys (wd σ) (.ref b :: As)) (va_Qi (fun (r : Int32) (u : SS) => r = r0 ∧ u = σ) (fun u t => va_P D vwCl (wd u) t.heap) A1) 0 0 A1) (cw : CallW R s args own C index y bytes maxL ret wsy rm 0 0 n)
    (hc : vwCl[ci]? = some (C, T, N)) (he : (wd σ)[q0]? = some (b, .inr (ci, fs))) (hn : As.length = n) (hsz : ls.size = nL) (hst : st0 = As.reverse ++ .ref b :: rest) (hW : (rest.map fun v => v.category).sum ≤ 8) (hdg : decode cc pc = .ok (.invokevirtual index, 3)) (hf : cells ≤ R.cells ∧ slots ≤ R.slots)
    (kk : ∀ (H1 : Heap) (locs1 : List Loc), va_P D vwCl (wd σ) H1 → va_P D vwCl w2 H1 → va_S A s.heap H1 locs1 → W p l e R s m args below meth c H1 locs1 cells slots Q (F0 m (pc + 3) ls (.int r0 :: rest))) : W p l e R s m args below meth c H locs cells slots Q (F0 m pc ls st0) :=
  va_calli (va_runV S hM cw (PW_V hK hP hD hc he) rfl hn hsz hst (lv_room hW) hdg hf) hS (fun q _ h => hA q h) (fun q h => hA q h) (fun r u t H1 locs1 ht hvm hw hB hz hk hS => by
    obtain ⟨h1, h2⟩ := hw
    rw [h1]
    exact kk H1 locs1 (by rw [← ht, ← h2]; exact hB) (hP2.kept (fun k x hx => hk x.1 ((hP2 k x hx).lt) (hsep k x hx))) hS)
theorem mL_wi {r0 : Int32 × SS} (S : CallFix p m c cc nL s args Ts own) (hK : va_K D vwCl tys s) (hP : va_P D vwCl (wd σ) H) (hP2 : va_P D vwCl w2 H) (hD : va_D A1 (wd σ)) (hA : ∀ q, A1 q → A q) (hsep : ∀ (k : Nat) (x : Nat × va_E), w2[k]? = some x → ¬ A1 x.1) (hS : va_S A s.heap H locs)
    (hM : Met l y wsy rm (PW D tys (wd σ) (.ref b :: As)) (va_Qi (fun (r : Int32) (u : SS) => (r, u) = r0) (fun u t => va_P D vwCl (wd u) t.heap) A1) 0 0 A1) (cw : CallW R s args own C index y bytes maxL ret wsy rm 0 0 n)
    (hc : vwCl[ci]? = some (C, T, N)) (he : (wd σ)[q0]? = some (b, .inr (ci, fs))) (hn : As.length = n) (hsz : ls.size = nL) (hst : st0 = As.reverse ++ .ref b :: rest) (hW : (rest.map fun v => v.category).sum ≤ 8) (hdg : decode cc pc = .ok (.invokevirtual index, 3)) (hf : cells ≤ R.cells ∧ slots ≤ R.slots)
    (kk : ∀ (H1 : Heap) (locs1 : List Loc), va_P D vwCl (wd r0.2) H1 → va_P D vwCl w2 H1 → va_S A s.heap H1 locs1 → W p l e R s m args below meth c H1 locs1 cells slots Q (F0 m (pc + 3) ls (.int r0.1 :: rest))) : W p l e R s m args below meth c H locs cells slots Q (F0 m pc ls st0) :=
  va_calli (va_runV S hM cw (PW_V hK hP hD hc he) rfl hn hsz hst (lv_room hW) hdg hf) hS (fun q _ h => hA q h) (fun q h => hA q h) (fun r u t H1 locs1 ht hvm hw hB hz hk hS => by
    subst hw
    exact kk H1 locs1 (by rw [← ht]; exact hB) (hP2.kept (fun k x hx => hk x.1 ((hP2 k x hx).lt) (hsep k x hx))) hS)
end RowsOfLaw
