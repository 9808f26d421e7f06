/-! the pure state, guards, and rows over a world -/
abbrev SS : Type := (Nat → Nat → Int32) × (Nat → Nat → Int64)
def sI (σ : SS) (k j : Nat) (x : Int32) : SS := (va_up σ.1 k (upd (σ.1 k) j x), σ.2)
def sL (σ : SS) (k j : Nat) (x : Int64) : SS := (σ.1, va_up σ.2 k (vp_updL (σ.2 k) j x))
def fI (σ : SS) (k n : Nat) (x : Int32) : SS := (va_up σ.1 k (fun j => if j < n then x else σ.1 k j), σ.2)
def fL (σ : SS) (k n : Nat) (x : Int64) : SS := (σ.1, va_up σ.2 k (fun j => if j < n then x else σ.2 k j))
def cpL (σ : SS) (k k2 n : Nat) : SS := (σ.1, va_up σ.2 k2 (va_cpy (σ.2 k) (σ.2 k2) 0 0 n))
def oi {α : Type} (i : Int32) (n : Nat) (k : Option α) : Option α := if i < 0 ∨ n ≤ i.toNatClampNeg then none else k
theorem oi_e {α : Type} {i : Int32} {n : Nat} {k : Option α} {r : α} (h : oi i n k = some r) : vp_in i n ∧ k = some r := by
  unfold oi at h
  split at h
  · cases h
  · rename_i h1
    exact ⟨h1, h⟩
def oz {α : Type} (y : Int64) (k : Option α) : Option α := if y = 0 then none else k
theorem oz_e {α : Type} {y : Int64} {k : Option α} {r : α} (h : oz y k = some r) : (¬ y = 0) ∧ k = some r := by
  unfold oz at h
  split at h
  · cases h
  · rename_i h1
    exact ⟨h1, h⟩
def ob {α : Type} (v : Int32) (k : Option α) : Option α := if v = 0 ∨ v = 1 then k else none
theorem ob_e {α : Type} {v : Int32} {k : Option α} {r : α} (h : ob v k = some r) : (v = 0 ∨ v = 1) ∧ k = some r := by
  unfold ob at h
  split at h
  · rename_i h1
    exact ⟨h1, h⟩
  · cases h
def oc {α β : Type} (o : Option α) (k : α → Option β) : Option β := match o with
  | none => none
  | some a => k a
theorem oc_e {α β : Type} {o : Option α} {k : α → Option β} {r : β} (h : oc o k = some r) : ∃ a, o = some a ∧ k a = some r := by
  cases o with
  | none => cases h
  | some a => exact ⟨a, rfl, h⟩
theorem nb_n {v : Int32} (h : v = 0 ∨ v = 1) : narrow .boolean (.int v) = .int v := by rcases h with rfl | rfl <;> rfl
theorem nb_a {v : Int32} (h : v = 0 ∨ v = 1) : vp_nar .boolean v = v := by rcases h with rfl | rfl <;> rfl
theorem nb_f {v : Int32} (h : v = 0 ∨ v = 1) : fits .boolean (.int v) = true := by rcases h with rfl | rfl <;> rfl
theorem wd_D {n : Nat} {ad : Nat → Nat} {w w' : va_W} {B : Nat → Prop} (h : va_D B w) (e : w.map (·.1) = (List.range n).map ad) (e' : w'.map (·.1) = (List.range n).map ad) : va_D (fun q => ∃ k, k < n ∧ q = ad k) w' := by
  have key : ∀ (v : va_W), v.map (·.1) = (List.range n).map ad → ∀ (i : Nat) (x : Nat × va_E), v[i]? = some x → i < n ∧ x.1 = ad i := by
    intro v ev i x hx
    have h1 : (v.map (·.1))[i]? = some x.1 := by rw [List.getElem?_map, hx]; rfl
    rw [ev, List.getElem?_map] at h1
    by_cases hi : i < n
    · rw [List.getElem?_range hi] at h1
      exact ⟨hi, (Option.some.inj h1).symm⟩
    · rw [List.getElem?_eq_none (by rw [List.length_range]; omega)] at h1
      cases h1
  have back : ∀ (i : Nat), i < n → ∃ x, w[i]? = some x ∧ x.1 = ad i := by
    intro i hi
    have hl : w.length = n := by have := congrArg List.length e; simpa using this
    have h2 : w[i]? = some (w[i]'(by omega)) := List.getElem?_eq_getElem (by omega)
    exact ⟨_, h2, (key w e i _ h2).2⟩
  refine ⟨fun i j x y hx hy hxy => ?_, fun k x hx => ⟨k, key w' e' k x hx⟩⟩
  obtain ⟨hi, ei⟩ := key w' e' i x hx
  obtain ⟨hj, ej⟩ := key w' e' j y hy
  obtain ⟨x0, gx, ex⟩ := back i hi
  obtain ⟨y0, gy, ey⟩ := back j hj
  exact h.1 i j x0 y0 gx gy (by rw [ex, ey, ← ei, ← ej]; exact hxy)
def tyw (cI cJ cZ : ClassId) : List (ClassId × FieldType) := [(cI, .int), (cJ, .long), (cZ, .boolean)]
def PW (D : va_G) (tys : List (ClassId × FieldType)) (w : va_W) (av : List Value) : Array Value → State → Prop := va_Pc av (fun U => va_P D vwCl w U.heap ∧ va_K D vwCl tys U ∧ va_D (fun _ => True) w)
theorem PW_blind {D : va_G} {tys : List (ClassId × FieldType)} {w : va_W} {av : List Value} : FrameBlind (PW D tys w av) := fun a U g mk q => by
  obtain ⟨q0, qP, qK, qD⟩ := q
  exact ⟨q0, qP, va_K.moved (u := U) (U := U.calling g mk a) (Vm.Alike.refl U.vm) qK, qD⟩
theorem PW_V {D : va_G} {tys : List (ClassId × FieldType)} {w : va_W} {A : Nat → Prop} {s : State} {H : Heap} {C : String} {T : u_T} {N ci q0 b : Nat} {fs As : List Value} (hK : va_K D vwCl tys s) (hP : va_P D vwCl w H) (hD : va_D A w) (hc : vwCl[ci]? = some (C, T, N)) (he : w[q0]? = some (b, .inr (ci, fs))) : PreV s H C b (PW D tys w (.ref b :: As)) As :=
  ⟨PW_blind, va_recv hK hP hc he, fun U hU hW => ⟨rfl, by rw [hU]; exact hP, va_K.moved hW.alike hK, hD.weaken (fun _ _ _ _ => trivial)⟩⟩
theorem PS_S {s : State} {H : Heap} {As : List Value} : PreS s H (va_Pc As (fun _ => True)) As := ⟨fun _ _ _ _ q => q, fun _ _ _ => ⟨rfl, trivial⟩⟩
section RowsOfMine
variable {p : Program} {l : Launch} {e : Env} {R : Room} {s : State} {m : MethodId} {args : Array Value} {below : List Frame} {meth : Method} {c : Code} {H : Heap} {locs : List Loc} {Q : State → Prop}
variable {pc : Nat} {ls : Array Slot} {rest st0 As : List Value} {D : va_G} {tys : List (ClassId × FieldType)} {wd : SS → va_W} {A : Nat → Prop} {σ : SS}
variable {y : MethodName} {bytes cc : ByteArray} {maxL nL n index : Nat} {ret : Option FieldType} {wsy : List Cond} {rm : Room} {Ts : List Cond} {own C : String} {b : Addr} {T : u_T} {N ci q0 : Nat} {fs : List Value}
theorem mV_ri {r0 : Int32} (S : CallFix p m c cc nL s args Ts own) (hK : va_K D vwCl tys s) (hP : va_P D vwCl (wd σ) H) (hD : ∀ σ, va_D A (wd σ)) (hS : va_S A s.heap H locs)
    (hM : Met l y wsy rm (PW D tys (wd σ) (.ref b :: As)) (va_Qi (fun (r : Int32) (u : SS) => r = r0 ∧ u = σ) (fun u t => va_P D vwCl (wd u) t.heap) A) 0 0 A) (cw : CallW R s args own C index y bytes maxL ret wsy rm 0 0 n)
    (hc : vwCl[ci]? = some (C, T, N)) (he : (wd σ)[q0]? = some (b, .inr (ci, fs))) (hn : As.length = n) (hsz : ls.size = nL) (hst : st0 = As.reverse ++ .ref b :: rest) (hW : (rest.map fun v => v.category).sum ≤ 8) (hdg : decode cc pc = .ok (.invokevirtual index, 3))
    (kk : ∀ (H1 : Heap) (locs1 : List Loc), va_P D vwCl (wd σ) H1 → va_S A s.heap H1 locs1 → W p l e R s m args below meth c H1 locs1 0 0 Q (F0 m (pc + 3) ls (.int r0 :: rest))) : W p l e R s m args below meth c H locs 0 0 Q (F0 m pc ls st0) :=
  va_calli (va_runV S hM cw (PW_V hK hP (hD σ) hc he) rfl hn hsz hst (lv_room hW) hdg ⟨Nat.zero_le _, Nat.zero_le _⟩) hS (fun q _ h => h) (fun q h => h) (fun r u t H1 locs1 ht hvm hw hB hz hk hS => by
    obtain ⟨h1, h2⟩ := hw
    rw [h1]
    exact kk H1 locs1 (by rw [← ht, ← h2]; exact hB) hS)
theorem mV_wi {r0 : Int32 × SS} (S : CallFix p m c cc nL s args Ts own) (hK : va_K D vwCl tys s) (hP : va_P D vwCl (wd σ) H) (hD : ∀ σ, va_D A (wd σ)) (hS : va_S A s.heap H locs)
    (hM : Met l y wsy rm (PW D tys (wd σ) (.ref b :: As)) (va_Qi (fun (r : Int32) (u : SS) => (r, u) = r0) (fun u t => va_P D vwCl (wd u) t.heap) A) 0 0 A) (cw : CallW R s args own C index y bytes maxL ret wsy rm 0 0 n)
    (hc : vwCl[ci]? = some (C, T, N)) (he : (wd σ)[q0]? = some (b, .inr (ci, fs))) (hn : As.length = n) (hsz : ls.size = nL) (hst : st0 = As.reverse ++ .ref b :: rest) (hW : (rest.map fun v => v.category).sum ≤ 8) (hdg : decode cc pc = .ok (.invokevirtual index, 3))
    (kk : ∀ (H1 : Heap) (locs1 : List Loc), va_P D vwCl (wd r0.2) H1 → va_S A s.heap H1 locs1 → W p l e R s m args below meth c H1 locs1 0 0 Q (F0 m (pc + 3) ls (.int r0.1 :: rest))) : W p l e R s m args below meth c H locs 0 0 Q (F0 m pc ls st0) :=
  va_calli (va_runV S hM cw (PW_V hK hP (hD σ) hc he) rfl hn hsz hst (lv_room hW) hdg ⟨Nat.zero_le _, Nat.zero_le _⟩) hS (fun q _ h => h) (fun q h => h) (fun r u t H1 locs1 ht hvm hw hB hz hk hS => by
    subst hw
    exact kk H1 locs1 (by rw [← ht]; exact hB) hS)
theorem mS_i {r0 : Int32} {w : va_W} (S : CallFix p m c cc nL s args Ts own) (hP : va_P D vwCl w H) (hS : va_S A s.heap H locs)
    (hM : Met l y wsy rm (va_Pc As (fun _ => True)) (va_Qi (fun (r : Int32) (_ : Unit) => r = r0) (fun _ _ => True) (fun _ => False)) 0 0 (fun _ => False)) (cw : CallB R s args own index y bytes maxL ret wsy rm 0 0 n ∧ (Cond.static y).before args s = true)
    (hn : As.length = n) (hsz : ls.size = nL) (hst : st0 = As.reverse ++ rest) (hW : (rest.map fun v => v.category).sum ≤ 8) (hdg : decode cc pc = .ok (.invokestatic index, 3))
    (kk : ∀ (H1 : Heap) (locs1 : List Loc), va_P D vwCl w H1 → va_S A s.heap H1 locs1 → W p l e R s m args below meth c H1 locs1 0 0 Q (F0 m (pc + 3) ls (.int r0 :: rest))) : W p l e R s m args below meth c H locs 0 0 Q (F0 m pc ls st0) :=
  va_calli (va_runS S hM cw PS_S rfl hn hsz hst (lv_room hW) hdg ⟨Nat.zero_le _, Nat.zero_le _⟩) hS (fun q _ h => h.elim) (fun q h => h.elim) (fun r u t H1 locs1 ht hvm hw hB hz hk hS => by
    rw [hw]
    exact kk H1 locs1 (hP.kept (fun k x hx => hk x.1 ((hP k x hx).lt) (fun h => h))) hS)
theorem mV_rl {r0 : Int64} (S : CallFix p m c cc nL s args Ts own) (hK : va_K D vwCl tys s) (hP : va_P D vwCl (wd σ) H) (hD : ∀ σ, va_D A (wd σ)) (hS : va_S A s.heap H locs)
    (hM : Met l y wsy rm (PW D tys (wd σ) (.ref b :: As)) (va_Ql (fun (r : Int64) (u : SS) => r = r0 ∧ u = σ) (fun u t => va_P D vwCl (wd u) t.heap) A) 0 0 A) (cw : CallW R s args own C index y bytes maxL ret wsy rm 0 0 n)
    (hc : vwCl[ci]? = some (C, T, N)) (he : (wd σ)[q0]? = some (b, .inr (ci, fs))) (hn : As.length = n) (hsz : ls.size = nL) (hst : st0 = As.reverse ++ .ref b :: rest) (hW : (rest.map fun v => v.category).sum ≤ 8) (hdg : decode cc pc = .ok (.invokevirtual index, 3))
    (kk : ∀ (H1 : Heap) (locs1 : List Loc), va_P D vwCl (wd σ) H1 → va_S A s.heap H1 locs1 → W p l e R s m args below meth c H1 locs1 0 0 Q (F0 m (pc + 3) ls (.long r0 :: rest))) : W p l e R s m args below meth c H locs 0 0 Q (F0 m pc ls st0) :=
  va_calll (va_runV S hM cw (PW_V hK hP (hD σ) hc he) rfl hn hsz hst (lv_room hW) hdg ⟨Nat.zero_le _, Nat.zero_le _⟩) hS (fun q _ h => h) (fun q h => h) (fun r u t H1 locs1 ht hvm hw hB hz hk hS => by
    obtain ⟨h1, h2⟩ := hw
    rw [h1]
    exact kk H1 locs1 (by rw [← ht, ← h2]; exact hB) hS)
theorem mV_wl {r0 : Int64 × SS} (S : CallFix p m c cc nL s args Ts own) (hK : va_K D vwCl tys s) (hP : va_P D vwCl (wd σ) H) (hD : ∀ σ, va_D A (wd σ)) (hS : va_S A s.heap H locs)
    (hM : Met l y wsy rm (PW D tys (wd σ) (.ref b :: As)) (va_Ql (fun (r : Int64) (u : SS) => (r, u) = r0) (fun u t => va_P D vwCl (wd u) t.heap) A) 0 0 A) (cw : CallW R s args own C index y bytes maxL ret wsy rm 0 0 n)
    (hc : vwCl[ci]? = some (C, T, N)) (he : (wd σ)[q0]? = some (b, .inr (ci, fs))) (hn : As.length = n) (hsz : ls.size = nL) (hst : st0 = As.reverse ++ .ref b :: rest) (hW : (rest.map fun v => v.category).sum ≤ 8) (hdg : decode cc pc = .ok (.invokevirtual index, 3))
    (kk : ∀ (H1 : Heap) (locs1 : List Loc), va_P D vwCl (wd r0.2) H1 → va_S A s.heap H1 locs1 → W p l e R s m args below meth c H1 locs1 0 0 Q (F0 m (pc + 3) ls (.long r0.1 :: rest))) : W p l e R s m args below meth c H locs 0 0 Q (F0 m pc ls st0) :=
  va_calll (va_runV S hM cw (PW_V hK hP (hD σ) hc he) rfl hn hsz hst (lv_room hW) hdg ⟨Nat.zero_le _, Nat.zero_le _⟩) hS (fun q _ h => h) (fun q h => h) (fun r u t H1 locs1 ht hvm hw hB hz hk hS => by
    subst hw
    exact kk H1 locs1 (by rw [← ht]; exact hB) hS)
theorem mS_l {r0 : Int64} {w : va_W} (S : CallFix p m c cc nL s args Ts own) (hP : va_P D vwCl w H) (hS : va_S A s.heap H locs)
    (hM : Met l y wsy rm (va_Pc As (fun _ => True)) (va_Ql (fun (r : Int64) (_ : Unit) => r = r0) (fun _ _ => True) (fun _ => False)) 0 0 (fun _ => False)) (cw : CallB R s args own index y bytes maxL ret wsy rm 0 0 n ∧ (Cond.static y).before args s = true)
    (hn : As.length = n) (hsz : ls.size = nL) (hst : st0 = As.reverse ++ rest) (hW : (rest.map fun v => v.category).sum ≤ 8) (hdg : decode cc pc = .ok (.invokestatic index, 3))
    (kk : ∀ (H1 : Heap) (locs1 : List Loc), va_P D vwCl w H1 → va_S A s.heap H1 locs1 → W p l e R s m args below meth c H1 locs1 0 0 Q (F0 m (pc + 3) ls (.long r0 :: rest))) : W p l e R s m args below meth c H locs 0 0 Q (F0 m pc ls st0) :=
  va_calll (va_runS S hM cw PS_S rfl hn hsz hst (lv_room hW) hdg ⟨Nat.zero_le _, Nat.zero_le _⟩) hS (fun q _ h => h.elim) (fun q h => h.elim) (fun r u t H1 locs1 ht hvm hw hB hz hk hS => by
    rw [hw]
    exact kk H1 locs1 (hP.kept (fun k x hx => hk x.1 ((hP k x hx).lt) (fun h => h))) hS)
theorem mV_wv {r0 : SS} (S : CallFix p m c cc nL s args Ts own) (hK : va_K D vwCl tys s) (hP : va_P D vwCl (wd σ) H) (hD : ∀ σ, va_D A (wd σ)) (hS : va_S A s.heap H locs)
    (hM : Met l y wsy rm (PW D tys (wd σ) (.ref b :: As)) (va_Qv (fun (u : SS) => u = r0) (fun u t => va_P D vwCl (wd u) t.heap) A) 0 0 A) (cw : CallW R s args own C index y bytes maxL ret wsy rm 0 0 n)
    (hc : vwCl[ci]? = some (C, T, N)) (he : (wd σ)[q0]? = some (b, .inr (ci, fs))) (hn : As.length = n) (hsz : ls.size = nL) (hst : st0 = As.reverse ++ .ref b :: rest) (hW : (rest.map fun v => v.category).sum ≤ 8) (hdg : decode cc pc = .ok (.invokevirtual index, 3))
    (kk : ∀ (H1 : Heap) (locs1 : List Loc), va_P D vwCl (wd r0) H1 → va_S A s.heap H1 locs1 → W p l e R s m args below meth c H1 locs1 0 0 Q (F0 m (pc + 3) ls rest)) : W p l e R s m args below meth c H locs 0 0 Q (F0 m pc ls st0) :=
  va_callv (va_runV S hM cw (PW_V hK hP (hD σ) hc he) rfl hn hsz hst (lv_room hW) hdg ⟨Nat.zero_le _, Nat.zero_le _⟩) hS (fun q _ h => h) (fun q h => h) (fun u t H1 locs1 ht hvm hw hB hz hk hS => by
    subst hw
    exact kk H1 locs1 (by rw [← ht]; exact hB) hS)
theorem rt_i {post : Int32 → SS → Prop} {v : Int32} (hx : p.tables.exec = Jvm.exec) (hb : c.code = cc) (hr : meth.sig.returnType = some .int) (hk : meth.locks = false) (hp : post v σ) (hP : va_P D vwCl (wd σ) H) (hS : va_S A s.heap H locs) (hdg : decode cc pc = .ok (.ireturn, 1)) : W p l e R s m args below meth c H locs 0 0 (MQ below (va_Qi post (fun u t => va_P D vwCl (wd u) t.heap) A) args s 0 0 A) (F0 m pc ls [.int v]) :=
  W.iret hx hb hr (fun t ht hW => ⟨⟨v, σ, rfl, hp, by show va_P D vwCl (wd σ) t.heap; rw [ht]; exact hP⟩, hS.F ht⟩) hS.2.2 hdg hk
theorem rt_z {post : Int32 → SS → Prop} {v : Int32} (hx : p.tables.exec = Jvm.exec) (hb : c.code = cc) (hr : meth.sig.returnType = some .boolean) (hk : meth.locks = false) (hn : v = 0 ∨ v = 1) (hp : post v σ) (hP : va_P D vwCl (wd σ) H) (hS : va_S A s.heap H locs) (hdg : decode cc pc = .ok (.ireturn, 1)) : W p l e R s m args below meth c H locs 0 0 (MQ below (va_Qi post (fun u t => va_P D vwCl (wd u) t.heap) A) args s 0 0 A) (F0 m pc ls [.int v]) :=
  W.zret hx hb hr (nb_n hn) (fun t ht hW => ⟨⟨v, σ, rfl, hp, by show va_P D vwCl (wd σ) t.heap; rw [ht]; exact hP⟩, hS.F ht⟩) hS.2.2 hdg hk
theorem rt_l {post : Int64 → SS → Prop} {v : Int64} (hx : p.tables.exec = Jvm.exec) (hb : c.code = cc) (hr : meth.sig.returnType = some .long) (hk : meth.locks = false) (hp : post v σ) (hP : va_P D vwCl (wd σ) H) (hS : va_S A s.heap H locs) (hdg : decode cc pc = .ok (.lreturn, 1)) : W p l e R s m args below meth c H locs 0 0 (MQ below (va_Ql post (fun u t => va_P D vwCl (wd u) t.heap) A) args s 0 0 A) (F0 m pc ls [.long v]) :=
  W.lret hx hb hr (fun t ht hW => ⟨⟨v, σ, rfl, hp, by show va_P D vwCl (wd σ) t.heap; rw [ht]; exact hP⟩, hS.F ht⟩) hS.2.2 hdg hk
theorem rt_v {post : SS → Prop} (hx : p.tables.exec = Jvm.exec) (hb : c.code = cc) (hr : meth.sig.returnType = none) (hk : meth.locks = false) (hp : post σ) (hP : va_P D vwCl (wd σ) H) (hS : va_S A s.heap H locs) (hdg : decode cc pc = .ok (.return_, 1)) : W p l e R s m args below meth c H locs 0 0 (MQ below (va_Qv post (fun u t => va_P D vwCl (wd u) t.heap) A) args s 0 0 A) (F0 m pc ls []) :=
  W.vret hx hb hr (fun t ht hW => ⟨⟨σ, rfl, hp, by show va_P D vwCl (wd σ) t.heap; rw [ht]; exact hP⟩, hS.F ht⟩) hS.2.2 hdg hk
theorem rs_i {post : Int32 → Unit → Prop} {v : Int32} (hx : p.tables.exec = Jvm.exec) (hb : c.code = cc) (hr : meth.sig.returnType = some .int) (hk : meth.locks = false) (hp : post v ()) (hS : va_S A s.heap H locs) (hdg : decode cc pc = .ok (.ireturn, 1)) : W p l e R s m args below meth c H locs 0 0 (MQ below (va_Qi post (fun _ _ => True) A) args s 0 0 A) (F0 m pc ls [.int v]) :=
  W.iret hx hb hr (fun t ht hW => ⟨⟨v, (), rfl, hp, trivial⟩, hS.F ht⟩) hS.2.2 hdg hk
theorem rs_z {post : Int32 → Unit → Prop} {v : Int32} (hx : p.tables.exec = Jvm.exec) (hb : c.code = cc) (hr : meth.sig.returnType = some .boolean) (hk : meth.locks = false) (hn : v = 0 ∨ v = 1) (hp : post v ()) (hS : va_S A s.heap H locs) (hdg : decode cc pc = .ok (.ireturn, 1)) : W p l e R s m args below meth c H locs 0 0 (MQ below (va_Qi post (fun _ _ => True) A) args s 0 0 A) (F0 m pc ls [.int v]) :=
  W.zret hx hb hr (nb_n hn) (fun t ht hW => ⟨⟨v, (), rfl, hp, trivial⟩, hS.F ht⟩) hS.2.2 hdg hk
theorem rs_l {post : Int64 → Unit → Prop} {v : Int64} (hx : p.tables.exec = Jvm.exec) (hb : c.code = cc) (hr : meth.sig.returnType = some .long) (hk : meth.locks = false) (hp : post v ()) (hS : va_S A s.heap H locs) (hdg : decode cc pc = .ok (.lreturn, 1)) : W p l e R s m args below meth c H locs 0 0 (MQ below (va_Ql post (fun _ _ => True) A) args s 0 0 A) (F0 m pc ls [.long v]) :=
  W.lret hx hb hr (fun t ht hW => ⟨⟨v, (), rfl, hp, trivial⟩, hS.F ht⟩) hS.2.2 hdg hk
end RowsOfMine
/-- what holds in a method's body -/
def mx (p : Program) (s : State) (m : MethodId) (args : Array Value) (meth : Method) (c : Code) (cc : ByteArray) (nL : Nat) (ret : Option FieldType) (ws : List Cond) (own : String) : Prop :=
  p.tables.exec = Jvm.exec ∧ c.code = cc ∧ meth.sig.returnType = ret ∧ c.maxLocals = nL ∧ s.vm.findClass own = some m.cls ∧ (∀ w ∈ ws, w.before args s = true) ∧ meth.locks = false
def jush (x : Int64) (y : Int32) : Int64 := (x.toUInt64 >>> (y.toInt64.toUInt64 &&& Int64.toUInt64 63)).toInt64
def jshl (x : Int64) (y : Int32) : Int64 := x <<< (y.toInt64 &&& 63)
