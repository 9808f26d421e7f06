/-! pure: THE GRAPH as the least that is closed. Kinds of what is in it: 0 a REACHED member, 1 a MADE class, 2 a BEGUN type, 3 a member in a BAG, 4 a CALLEE of an OP -/
abbrev G3 : Type := Nat → Nat → Nat → Prop
def hpl (P : Nat → Nat → Int32) (nm k : Nat) : Prop := ∃ m, m < nm ∧ P 5 m = nI k ∧ P 7 m = 0
/-- k is begun with t -/
def wth (P : Nat → Nat → Int32) (nt nm t k : Nat) : Prop := k < nt ∧ (k = t ∨ (¬ P 1 t = 2 ∧ und P t k ∧ (¬ P 1 k = 2 ∨ hpl P nm k)))
def beg (P : Nat → Nat → Int32) (nt nm o t : Nat) : G3 := fun q i j => ∃ k, wth P nt nm t k ∧ ((q = 2 ∧ i = k ∧ j = 0) ∨ (q = 4 ∧ i = o ∧ j < nm ∧ P 5 j = nI k ∧ P 6 j = -1))
def hdl (P : Nat → Nat → Int32) (m : Nat) : Prop := P 7 m = 0 ∨ P 7 m = 2 ∨ P 7 m = 3
def e0 (P : Nat → Nat → Int32) (nt nm o : Nat) : G3 := fun q i j => ∃ t, t < nt ∧ P 12 o = nI t ∧ ((q = 1 ∧ i = t ∧ j = 0) ∨ beg P nt nm o t q i j)
def e1 (P : Nat → Nat → Int32) (nt nm : Nat) (S : G3) (o : Nat) : G3 := fun q i j => q = 4 ∧ i = o ∧ j < nm ∧ ∃ t n c, t < nt ∧ n < 10 ∧ c < nt ∧ P 12 o = nI t ∧ P 13 o = nI n ∧ S 1 c 0 ∧ und P c t ∧ isH P nt nm c t (nI n) (nI j)
def e2 (P : Nat → Nat → Int32) (nt nm o : Nat) : G3 := fun q i j => q = 4 ∧ i = o ∧ j < nm ∧ ∃ t n, t < nt ∧ n < 10 ∧ P 12 o = nI t ∧ P 13 o = nI n ∧ isH P nt nm t t (nI n) (nI j)
def e3 (P : Nat → Nat → Int32) (nt nm o : Nat) : G3 := fun q i j => ∃ t n f u, t < nt ∧ n < 10 ∧ f < nm ∧ u < nt ∧ P 12 o = nI t ∧ P 13 o = nI n ∧ isF P nt nm t (nI n) (nI f) ∧ P 7 f = 2 ∧ P 5 f = nI u ∧ ((q = 4 ∧ i = o ∧ j = f) ∨ beg P nt nm o u q i j)
def e5 (P : Nat → Nat → Int32) (nm o : Nat) : G3 := fun q i j => q = 3 ∧ i < 4 ∧ j < nm ∧ P 12 o = nI i ∧ P 13 o = nI j
def e6 (P : Nat → Nat → Int32) (nm : Nat) (S : G3) (o : Nat) : G3 := fun q i j => q = 4 ∧ i = o ∧ j < nm ∧ ∃ a, a < 4 ∧ P 12 o = nI a ∧ S 3 a j
def e7 (P : Nat → Nat → Int32) (nm o : Nat) : G3 := fun q i j => q = 4 ∧ i = o ∧ j < nm ∧ ∃ n, n < 10 ∧ P 13 o = nI n ∧ P 6 j = nI n ∧ hdl P j
/-- what an OP puts into the graph -/
def opS (P : Nat → Nat → Int32) (nt nm : Nat) (S : G3) (o : Nat) : G3 := fun q i j => (P 11 o = 0 ∧ e0 P nt nm o q i j) ∨ (P 11 o = 1 ∧ e1 P nt nm S o q i j) ∨ (P 11 o = 2 ∧ e2 P nt nm o q i j) ∨ (P 11 o = 3 ∧ e3 P nt nm o q i j) ∨ (P 11 o = 4 ∧ e1 P nt nm S o q i j) ∨ (P 11 o = 5 ∧ e5 P nm o q i j) ∨ (P 11 o = 6 ∧ e6 P nm S o q i j) ∨ (P 11 o = 7 ∧ e7 P nm o q i j)
theorem opS_0 {P : Nat → Nat → Int32} {nt nm : Nat} {S : G3} {o : Nat} (h : P 11 o = 0) : opS P nt nm S o = e0 P nt nm o := by
  funext q i j; unfold opS; rw [h]; exact propext (by simp)
theorem opS_1 {P : Nat → Nat → Int32} {nt nm : Nat} {S : G3} {o : Nat} (h : P 11 o = 1) : opS P nt nm S o = e1 P nt nm S o := by
  funext q i j; unfold opS; rw [h]; exact propext (by simp)
theorem opS_2 {P : Nat → Nat → Int32} {nt nm : Nat} {S : G3} {o : Nat} (h : P 11 o = 2) : opS P nt nm S o = e2 P nt nm o := by
  funext q i j; unfold opS; rw [h]; exact propext (by simp)
theorem opS_3 {P : Nat → Nat → Int32} {nt nm : Nat} {S : G3} {o : Nat} (h : P 11 o = 3) : opS P nt nm S o = e3 P nt nm o := by
  funext q i j; unfold opS; rw [h]; exact propext (by simp)
theorem opS_4 {P : Nat → Nat → Int32} {nt nm : Nat} {S : G3} {o : Nat} (h : P 11 o = 4) : opS P nt nm S o = e1 P nt nm S o := by
  funext q i j; unfold opS; rw [h]; exact propext (by simp)
theorem opS_5 {P : Nat → Nat → Int32} {nt nm : Nat} {S : G3} {o : Nat} (h : P 11 o = 5) : opS P nt nm S o = e5 P nm o := by
  funext q i j; unfold opS; rw [h]; exact propext (by simp)
theorem opS_6 {P : Nat → Nat → Int32} {nt nm : Nat} {S : G3} {o : Nat} (h : P 11 o = 6) : opS P nt nm S o = e6 P nm S o := by
  funext q i j; unfold opS; rw [h]; exact propext (by simp)
theorem opS_7 {P : Nat → Nat → Int32} {nt nm : Nat} {S : G3} {o : Nat} (h : P 11 o = 7) : opS P nt nm S o = e7 P nm o := by
  funext q i j; unfold opS; rw [h]; exact propext (by simp)
/-- it looks at what is MADE and at the BAGS alone -/
theorem opS_dep {P : Nat → Nat → Int32} {nt nm : Nat} {S S' : G3} (h1 : ∀ c, S 1 c 0 → S' 1 c 0) (h3 : ∀ a m, S 3 a m → S' 3 a m) {o q i j : Nat} (h : opS P nt nm S o q i j) : opS P nt nm S' o q i j := by
  have k1 : e1 P nt nm S o q i j → e1 P nt nm S' o q i j := by
    rintro ⟨a1, a2, a3, t, n, c, a4, a5, a6, a7, a8, a9, a10⟩
    exact ⟨a1, a2, a3, t, n, c, a4, a5, a6, a7, a8, h1 c a9, a10⟩
  rcases h with h | ⟨h0, h⟩ | h | h | ⟨h0, h⟩ | h | ⟨h0, a1, a2, a3, a, a4, a5, a6⟩ | h
  · exact Or.inl h
  · exact Or.inr (Or.inl ⟨h0, k1 h⟩)
  · exact Or.inr (Or.inr (Or.inl h))
  · exact Or.inr (Or.inr (Or.inr (Or.inl h)))
  · exact Or.inr (Or.inr (Or.inr (Or.inr (Or.inl ⟨h0, k1 h⟩))))
  · exact Or.inr (Or.inr (Or.inr (Or.inr (Or.inr (Or.inl h)))))
  · exact Or.inr (Or.inr (Or.inr (Or.inr (Or.inr (Or.inr (Or.inl ⟨h0, a1, a2, a3, a, a4, a5, h3 a j a6⟩))))))
  · exact Or.inr (Or.inr (Or.inr (Or.inr (Or.inr (Or.inr (Or.inr h))))))
theorem beg_o {P : Nat → Nat → Int32} {nt nm o t q i j : Nat} (h : beg P nt nm o t q i j) : q = 2 ∨ (q = 4 ∧ i = o) := by
  obtain ⟨k, -, ⟨h, -⟩ | ⟨h, h1, -⟩⟩ := h
  · exact Or.inl h
  · exact Or.inr ⟨h, h1⟩
/-- an OP has no CALLEES but its own -/
theorem opS_o {P : Nat → Nat → Int32} {nt nm : Nat} {S : G3} {o i j : Nat} (h : opS P nt nm S o 4 i j) : i = o := by
  rcases h with ⟨-, t, -, -, ⟨h, -⟩ | h⟩ | ⟨-, h⟩ | ⟨-, h⟩ | ⟨-, t, n, f, u, -, -, -, -, -, -, -, -, -, ⟨-, h, -⟩ | h⟩ | ⟨-, h⟩ | ⟨-, h, -⟩ | ⟨-, h⟩ | ⟨-, h⟩
  · cases h
  · rcases beg_o h with h | h
    · cases h
    · exact h.2
  · exact h.2.1
  · exact h.2.1
  · exact h
  · rcases beg_o h with h | h
    · cases h
    · exact h.2
  · exact h.2.1
  · cases h
  · exact h.2.1
  · exact h.2.1
/-- no OP puts a REACHED member but by CALLEES -/
theorem opS_n0 {P : Nat → Nat → Int32} {nt nm : Nat} {S : G3} {o i j : Nat} (h : opS P nt nm S o 0 i j) : False := by
  rcases h with ⟨-, t, -, -, ⟨h, -⟩ | h⟩ | ⟨-, h, -⟩ | ⟨-, h, -⟩ | ⟨-, t, n, f, u, -, -, -, -, -, -, -, -, -, ⟨h, -⟩ | h⟩ | ⟨-, h, -⟩ | ⟨-, h, -⟩ | ⟨-, h, -⟩ | ⟨-, h, -⟩
  · cases h
  · rcases beg_o h with h | ⟨h, -⟩ <;> cases h
  · cases h
  · cases h
  · cases h
  · rcases beg_o h with h | ⟨h, -⟩ <;> cases h
  · cases h
  · cases h
  · cases h
  · cases h
def ofM (P : Nat → Nat → Int32) (m o : Nat) : Prop := ∃ c i, P 9 m = nI c ∧ c ≤ 24 ∧ i < c ∧ P 10 (24 * m + i) = nI o ∧ o < 160
def cls (P : Nat → Nat → Int32) (nt nm : Nat) (S : G3) : Prop := (∀ m, m < nm → P 8 m = 1 → S 0 m 0) ∧ (∀ o m, S 4 o m → S 0 m 0) ∧ ∀ m, m < nm → S 0 m 0 → ∀ o, ofM P m o → ∀ q i j, opS P nt nm S o q i j → S q i j
/-- THE GRAPH -/
def LG (P : Nat → Nat → Int32) (nt nm : Nat) : G3 := fun q i j => ∀ S : G3, cls P nt nm S → S q i j
theorem LG_cls (P : Nat → Nat → Int32) (nt nm : Nat) : cls P nt nm (LG P nt nm) := by
  refine ⟨fun m hm h S hS => hS.1 m hm h, fun o m h S hS => hS.2.1 o m (h S hS), fun m hm h o ho q i j hq S hS => ?_⟩
  exact hS.2.2 m hm (h S hS) o ho q i j (opS_dep (fun c hc => hc S hS) (fun a m hm => hm S hS) hq)
def sub3 (S S' : G3) : Prop := ∀ q i j, S q i j → S' q i j
theorem sub3_rf (S : G3) : sub3 S S := fun _ _ _ h => h
theorem sub3_tr {A B C : G3} (h : sub3 A B) (g : sub3 B C) : sub3 A C := fun q i j x => g q i j (h q i j x)
/-- one OP -/
def Tr (P : Nat → Nat → Int32) (nt nm : Nat) (S : G3) (o : Nat) (S' : G3) : Prop := sub3 S S' ∧ (∀ q i j, S' q i j → S q i j ∨ opS P nt nm S o q i j ∨ (q = 0 ∧ j = 0 ∧ (S 4 o i ∨ opS P nt nm S o 4 o i))) ∧ sub3 (opS P nt nm S o) S' ∧ ∀ i, S' 4 o i → S' 0 i 0
def crS (S : G3) : Prop := ∀ o m, S 4 o m → S 0 m 0
/-- on the way of a pass that began with S0, and has done the OPS of D -/
def PD (P : Nat → Nat → Int32) (nt nm : Nat) (D : Nat → Prop) (S0 S : G3) : Prop := sub3 S0 S ∧ (sub3 S0 (LG P nt nm) → sub3 S (LG P nt nm)) ∧ (crS S0 → crS S) ∧ ∀ o, D o → sub3 (opS P nt nm S0 o) S
theorem PD_0 (P : Nat → Nat → Int32) (nt nm : Nat) (S : G3) : PD P nt nm (fun _ => False) S S := ⟨sub3_rf S, id, id, fun _ h => h.elim⟩
theorem PD_w {P : Nat → Nat → Int32} {nt nm : Nat} {D D' : Nat → Prop} {S0 S : G3} (h : PD P nt nm D S0 S) (hD : ∀ o, D' o → D o) : PD P nt nm D' S0 S := ⟨h.1, h.2.1, h.2.2.1, fun o ho => h.2.2.2 o (hD o ho)⟩
theorem PD_s {P : Nat → Nat → Int32} {nt nm : Nat} {D : Nat → Prop} {S0 S S' : G3} {o m : Nat} (h : PD P nt nm D S0 S) (hT : Tr P nt nm S o S') (hm : m < nm) (hr : S 0 m 0) (ho : ofM P m o) : PD P nt nm (fun x => D x ∨ x = o) S0 S' := by
  obtain ⟨h1, h2, h3, h4⟩ := h
  obtain ⟨t1, t2, t3, t4⟩ := hT
  have hL := LG_cls P nt nm
  refine ⟨sub3_tr h1 t1, fun hS => ?_, fun hc => ?_, fun x hx => ?_⟩
  · have hSL := h2 hS
    have hop : sub3 (opS P nt nm S o) (LG P nt nm) := fun q i j hq => hL.2.2 m hm (hSL _ _ _ hr) o ho q i j (opS_dep (fun c hc => hSL _ _ _ hc) (fun a m hm => hSL _ _ _ hm) hq)
    intro q i j hq
    rcases t2 q i j hq with g | g | ⟨rfl, rfl, g | g⟩
    · exact hSL _ _ _ g
    · exact hop _ _ _ g
    · exact hL.2.1 o i (hSL _ _ _ g)
    · exact hL.2.1 o i (hop _ _ _ g)
  · have hcS := h3 hc
    intro o' m' hq
    by_cases e : o' = o
    · subst e
      exact t4 m' hq
    · rcases t2 4 o' m' hq with g | g | ⟨g, -⟩
      · exact t1 _ _ _ (hcS o' m' g)
      · exact absurd (opS_o g) e
      · cases g
  · rcases hx with hx | rfl
    · exact sub3_tr (h4 x hx) t1
    · exact fun q i j hq => t3 q i j (opS_dep (fun c hc => h1 _ _ _ hc) (fun a m hm => h1 _ _ _ hm) hq)
/-- a pass that changes no set has the graph -/
theorem PD_end {P : Nat → Nat → Int32} {nt nm : Nat} {S0 S : G3} (h : PD P nt nm (fun o => ∃ m, m < nm ∧ S0 0 m 0 ∧ ofM P m o) S0 S) (hL : sub3 S0 (LG P nt nm)) (hc : crS S0) (hr : ∀ m, m < nm → P 8 m = 1 → S0 0 m 0) (e : ∀ q i j, q < 4 → S q i j → S0 q i j) : S = LG P nt nm := by
  obtain ⟨h1, h2, h3, h4⟩ := h
  have hcl : cls P nt nm S := ⟨fun m hm h8 => h1 _ _ _ (hr m hm h8), h3 hc, fun m hm hq o ho q i j hop => h4 o ⟨m, hm, e 0 m 0 (by omega) hq, ho⟩ q i j (opS_dep (fun c hc => e 1 c 0 (by omega) hc) (fun a m hm => e 3 a m (by omega) hm) hop)⟩
  funext q i j
  exact propext ⟨fun hq => h2 hL q i j hq, fun hq => hq S hcl⟩
/-- what is in it -/
def bnd (nt nm : Nat) : G3 := fun q i j => (q = 0 ∧ i < nm ∧ j = 0) ∨ (q = 1 ∧ i < nt ∧ j = 0) ∨ (q = 2 ∧ i < nt ∧ j = 0) ∨ (q = 3 ∧ i < 4 ∧ j < nm) ∨ (q = 4 ∧ i < 160 ∧ j < nm)
theorem opS_bnd {P : Nat → Nat → Int32} {nt nm : Nat} {S : G3} {o q i j : Nat} (ho : o < 160) (h : opS P nt nm S o q i j) : bnd nt nm q i j := by
  have hb : ∀ t, beg P nt nm o t q i j → bnd nt nm q i j := by
    rintro t ⟨k, hk, ⟨h1, h2, h3⟩ | ⟨h1, h2, h3, -⟩⟩
    · exact Or.inr (Or.inr (Or.inl ⟨h1, by rw [h2]; exact hk.1, h3⟩))
    · exact Or.inr (Or.inr (Or.inr (Or.inr ⟨h1, by rw [h2]; exact ho, h3⟩)))
  rcases h with ⟨-, t, ht, -, ⟨h1, h2, h3⟩ | h⟩ | ⟨-, h1, h2, h3, -⟩ | ⟨-, h1, h2, h3, -⟩ | ⟨-, t, n, f, u, -, -, hf, -, -, -, -, -, -, ⟨h1, h2, h3⟩ | h⟩ | ⟨-, h1, h2, h3, -⟩ | ⟨-, h1, h2, h3, -⟩ | ⟨-, h1, h2, h3, -⟩ | ⟨-, h1, h2, h3, -⟩
  · exact Or.inr (Or.inl ⟨h1, by rw [h2]; exact ht, h3⟩)
  · exact hb _ h
  · exact Or.inr (Or.inr (Or.inr (Or.inr ⟨h1, by rw [h2]; exact ho, h3⟩)))
  · exact Or.inr (Or.inr (Or.inr (Or.inr ⟨h1, by rw [h2]; exact ho, h3⟩)))
  · exact Or.inr (Or.inr (Or.inr (Or.inr ⟨h1, by rw [h2]; exact ho, by rw [h3]; exact hf⟩)))
  · exact hb _ h
  · exact Or.inr (Or.inr (Or.inr (Or.inr ⟨h1, by rw [h2]; exact ho, h3⟩)))
  · exact Or.inr (Or.inr (Or.inr (Or.inl ⟨h1, h2, h3⟩)))
  · exact Or.inr (Or.inr (Or.inr (Or.inr ⟨h1, by rw [h2]; exact ho, h3⟩)))
  · exact Or.inr (Or.inr (Or.inr (Or.inr ⟨h1, by rw [h2]; exact ho, h3⟩)))
theorem LG_bnd {P : Nat → Nat → Int32} {nt nm q i j : Nat} (h : LG P nt nm q i j) : bnd nt nm q i j := by
  refine h (bnd nt nm) ⟨fun m hm _ => Or.inl ⟨rfl, hm, rfl⟩, ?_, fun m hm _ o ho q i j hq => opS_bnd (by obtain ⟨c, i, -, -, -, -, q⟩ := ho; exact q) hq⟩
  rintro o m (⟨h, -⟩ | ⟨h, -⟩ | ⟨h, -⟩ | ⟨h, -⟩ | ⟨-, -, h⟩)
  · cases h
  · cases h
  · cases h
  · cases h
  · exact Or.inl ⟨rfl, h, rfl⟩
/-- the graph of the same program -/
theorem LG_c {P P' : Nat → Nat → Int32} {nt nm : Nat} (h : ∀ c, c ≠ 0 → c < 14 → P' c = P c) : LG P' nt nm = LG P nt nm := by
  have hu : und P' = und P := und_c (h 2 (by decide) (by decide)) (h 3 (by decide) (by decide)) (h 4 (by decide) (by decide))
  have hH : isH P' = isH P := by
    funext a b c d e f
    exact propext ⟨fun q => isH_c q hu h, fun q => isH_c q hu.symm (fun c h0 h1 => (h c h0 h1).symm)⟩
  have hlf : lfB P' = lfB P := by
    funext nt nm t name m
    unfold lfB
    rw [lft_c hu h]
  have hF : isF P' = isF P := by
    funext nt nm t name r
    unfold isF
    rw [isC_c h, lpB_c hu h, hlf]
  have hop : opS P' nt nm = opS P nt nm := by
    funext S o q i j
    unfold opS e0 e1 e2 e3 e5 e6 e7 beg wth hpl hdl
    rw [hu, hH, hF, h 1 (by decide) (by decide), h 5 (by decide) (by decide), h 6 (by decide) (by decide), h 7 (by decide) (by decide), h 11 (by decide) (by decide), h 12 (by decide) (by decide), h 13 (by decide) (by decide)]
  funext q i j
  unfold LG cls ofM
  rw [hop, h 8 (by decide) (by decide), h 9 (by decide) (by decide), h 10 (by decide) (by decide)]
