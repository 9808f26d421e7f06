def p_L_793 (xs : Nat → Int32) (L : Nat) (k18 : Int32 → SS → SS → Option Int32) (v3 : Int32) (σ τ : SS) : Option Int32 := k18 (v3 + 5) σ τ
set_option maxHeartbeats 4000000 in
set_option maxRecDepth 100000 in
theorem w_L_793 {p : Program} {l : Launch} {e : Env} {s : State} {m : MethodId} {below : List Frame} {meth : Method} {c : Code} {cells slots : Nat} {D : va_G} {adC adM : Nat → Nat} {cI cJ cZ : ClassId} {b L : Nat} {xs : Nat → Int32} (C0 : lw_At p s m meth c b L xs) (hts : ∀ w ∈ wsL_law, w.before #[Value.ref b] s = true) (hcs : cells ≤ room_1.cells ∧ slots ≤ room_1.slots) (hK : va_K D vwCl (tyw cI cJ cZ) s) (hDC : ∀ σ, va_D (aC adC) (wC adC cI cJ cZ σ)) (hDM : ∀ σ, va_D (aM adM) (wM adM cI cJ cZ σ)) (hAC : ∀ q, aC adC q → s.heap.size ≤ q) (hAM : ∀ q, aM adM q → s.heap.size ≤ q) (hCM : ∀ (τ : SS) (k : Nat) (x : Nat × va_E), (wM adM cI cJ cZ τ)[k]? = some x → ¬ aC adC x.1) (hMC : ∀ (σ : SS) (k : Nat) (x : Nat × va_E), (wC adC cI cJ cZ σ)[k]? = some x → ¬ aM adM x.1) (k18 : Int32 → SS → SS → Option Int32) (hk18 : ∀ (v3 : Int32) (σ τ : SS), k18 v3 σ τ = some 1 → ∀ (H : Heap) (locs : List Loc) (ls : Array Slot), va_P D vwCl (wC adC cI cJ cZ σ) H → va_P D vwCl (wM adM cI cJ cZ τ) H → va_S (fun q : Nat => s.heap.size ≤ q) s.heap H locs → lv_has ls 4 [(0, .ref b), (1, .ref (adC 0)), (2, .ref (adM 0)), (3, .int v3)] → W p l e room_1 s m #[Value.ref b] below meth c H locs cells slots (lw_Z below #[Value.ref b] s) (F0 m 18 ls [])) (v3 : Int32) (σ τ : SS) (hf : p_L_793 xs L k18 v3 σ τ = some 1) (H : Heap) (locs : List Loc) (ls : Array Slot) (hC : va_P D vwCl (wC adC cI cJ cZ σ) H) (hM : va_P D vwCl (wM adM cI cJ cZ τ) H) (hS : va_S (fun q : Nat => s.heap.size ≤ q) s.heap H locs) (hl : lv_has ls 4 [(0, .ref b), (1, .ref (adC 0)), (2, .ref (adM 0)), (3, .int v3)]) : W p l e room_1 s m #[Value.ref b] below meth c H locs cells slots (lw_Z below #[Value.ref b] s) (F0 m 793 ls []) := by
  obtain ⟨hx, hb, hr, hml, hown, -, hX, hbl, hlk, -⟩ := id C0
  have hbA : ¬ (fun q : Nat => s.heap.size ≤ q) b := Nat.not_le.mpr hbl
  unfold p_L_793 at hf
  refine lv_iinc (v := (v3 + 5)) (lv' := [(3, .int (v3 + 5)), (0, .ref b), (1, .ref (adC 0)), (2, .ref (adM 0))]) hx hb dL_law_793 hl (k := 3) rfl rfl (by decide) rfl (fun ls hl => ?_)
  refine lv_goto (tgt := 18) hx hb dL_law_796 (by decide) ?_
  exact hk18 (v3 + 5) σ τ hf _ _ _ hC hM hS (lv_sub hl [1, 2, 3, 0] rfl)
def p_L_116 (xs : Nat → Int32) (L : Nat) (k18 : Int32 → SS → SS → Option Int32) (v3 : Int32) (σ τ : SS) : Option Int32 := oi (v3 + 1) L (oi (v3 + 2) L (oc (p_X7_type_0 (xs (v3 + 1).toNatClampNeg) (xs (v3 + 2).toNatClampNeg) σ) (fun r_127 => oi (v3 + 1) L (oi (v3 + 2) L (oc (p_X8_type_0 (xs (v3 + 1).toNatClampNeg) (xs (v3 + 2).toNatClampNeg) τ) (fun r_141 => if r_127.1 = r_141.1 then p_L_793 xs L k18 v3 r_127.2 r_141.2 else some 0))))))
set_option maxHeartbeats 4000000 in
set_option maxRecDepth 100000 in
theorem w_L_116 {p : Program} {l : Launch} {e : Env} {s : State} {m : MethodId} {below : List Frame} {meth : Method} {c : Code} {cells slots : Nat} {D : va_G} {adC adM : Nat → Nat} {cI cJ cZ : ClassId} {b L : Nat} {xs : Nat → Int32} (C0 : lw_At p s m meth c b L xs) (hts : ∀ w ∈ wsL_law, w.before #[Value.ref b] s = true) (hcs : cells ≤ room_1.cells ∧ slots ≤ room_1.slots) (hK : va_K D vwCl (tyw cI cJ cZ) s) (hDC : ∀ σ, va_D (aC adC) (wC adC cI cJ cZ σ)) (hDM : ∀ σ, va_D (aM adM) (wM adM cI cJ cZ σ)) (hAC : ∀ q, aC adC q → s.heap.size ≤ q) (hAM : ∀ q, aM adM q → s.heap.size ≤ q) (hCM : ∀ (τ : SS) (k : Nat) (x : Nat × va_E), (wM adM cI cJ cZ τ)[k]? = some x → ¬ aC adC x.1) (hMC : ∀ (σ : SS) (k : Nat) (x : Nat × va_E), (wC adC cI cJ cZ σ)[k]? = some x → ¬ aM adM x.1) (k18 : Int32 → SS → SS → Option Int32) (hk18 : ∀ (v3 : Int32) (σ τ : SS), k18 v3 σ τ = some 1 → ∀ (H : Heap) (locs : List Loc) (ls : Array Slot), va_P D vwCl (wC adC cI cJ cZ σ) H → va_P D vwCl (wM adM cI cJ cZ τ) H → va_S (fun q : Nat => s.heap.size ≤ q) s.heap H locs → lv_has ls 4 [(0, .ref b), (1, .ref (adC 0)), (2, .ref (adM 0)), (3, .int v3)] → W p l e room_1 s m #[Value.ref b] below meth c H locs cells slots (lw_Z below #[Value.ref b] s) (F0 m 18 ls [])) (v3 : Int32) (σ τ : SS) (hf : p_L_116 xs L k18 v3 σ τ = some 1) (H : Heap) (locs : List Loc) (ls : Array Slot) (hC : va_P D vwCl (wC adC cI cJ cZ σ) H) (hM : va_P D vwCl (wM adM cI cJ cZ τ) H) (hS : va_S (fun q : Nat => s.heap.size ≤ q) s.heap H locs) (hl : lv_has ls 4 [(0, .ref b), (1, .ref (adC 0)), (2, .ref (adM 0)), (3, .int v3)]) : W p l e room_1 s m #[Value.ref b] below meth c H locs cells slots (lw_Z below #[Value.ref b] s) (F0 m 116 ls []) := by
  obtain ⟨hx, hb, hr, hml, hown, -, hX, hbl, hlk, -⟩ := id C0
  have hbA : ¬ (fun q : Nat => s.heap.size ≤ q) b := Nat.not_le.mpr hbl
  unfold p_L_116 at hf
  refine lv_aload_n hx hb dL_law_116 rfl (lv_at hl 1 rfl) ?_
  refine lv_aload_n hx hb dL_law_117 rfl (lv_at hl 0 rfl) ?_
  refine lv_iload_n hx hb dL_law_118 rfl (lv_at hl 3 rfl) ?_
  refine lv_iconst (v := 1) hx hb dL_law_119 (by decide) ?_
  refine lv_iadd hx hb dL_law_120 ?_
  obtain ⟨h_121, hf⟩ := oi_e hf
  refine va_sld hx hb hX hbl hbA hS h_121 dL_law_121 ?_
  refine lv_aload_n hx hb dL_law_122 rfl (lv_at hl 0 rfl) ?_
  refine lv_iload_n hx hb dL_law_123 rfl (lv_at hl 3 rfl) ?_
  refine lv_iconst (v := 2) hx hb dL_law_124 (by decide) ?_
  refine lv_iadd hx hb dL_law_125 ?_
  obtain ⟨h_126, hf⟩ := oi_e hf
  refine va_sld hx hb hX hbl hbA hS h_126 dL_law_126 ?_
  obtain ⟨r_127, hg_127, hf⟩ := oc_e hf
  refine mL_wi (wd := wC adC cI cJ cZ) (σ := σ) (As := [.int (xs (v3 + 1).toNatClampNeg), .int (xs (v3 + 2).toNatClampNeg)]) (rest := []) ⟨hx, hb, hml, hown, hts⟩ hK hC hM (hDC _) hAC (hCM _) hS (c_X7_type l D adC cI cJ cZ σ (xs (v3 + 1).toNatClampNeg) (xs (v3 + 2).toNatClampNeg) hg_127) (cwV 2 hts gL_law_X7_type rfl rfl rfl hd_X7_type ⟨Nat.le_of_ble_eq_true rfl, Nat.le_of_ble_eq_true rfl⟩) rfl (wC_0 _ _ _ _ _) rfl hl.1 rfl (Nat.le_of_ble_eq_true rfl) dL_law_127 hcs (fun H locs hC hM hS => ?_)
  refine lv_aload_n hx hb dL_law_130 rfl (lv_at hl 2 rfl) ?_
  refine lv_aload_n hx hb dL_law_131 rfl (lv_at hl 0 rfl) ?_
  refine lv_iload_n hx hb dL_law_132 rfl (lv_at hl 3 rfl) ?_
  refine lv_iconst (v := 1) hx hb dL_law_133 (by decide) ?_
  refine lv_iadd hx hb dL_law_134 ?_
  obtain ⟨h_135, hf⟩ := oi_e hf
  refine va_sld hx hb hX hbl hbA hS h_135 dL_law_135 ?_
  refine lv_aload_n hx hb dL_law_136 rfl (lv_at hl 0 rfl) ?_
  refine lv_iload_n hx hb dL_law_137 rfl (lv_at hl 3 rfl) ?_
  refine lv_iconst (v := 2) hx hb dL_law_138 (by decide) ?_
  refine lv_iadd hx hb dL_law_139 ?_
  obtain ⟨h_140, hf⟩ := oi_e hf
  refine va_sld hx hb hX hbl hbA hS h_140 dL_law_140 ?_
  obtain ⟨r_141, hg_141, hf⟩ := oc_e hf
  refine mL_wi (wd := wM adM cI cJ cZ) (σ := τ) (As := [.int (xs (v3 + 1).toNatClampNeg), .int (xs (v3 + 2).toNatClampNeg)]) (rest := [.int r_127.1]) ⟨hx, hb, hml, hown, hts⟩ hK hM hC (hDM _) hAM (hMC _) hS (c_X8_type l D adM cI cJ cZ τ (xs (v3 + 1).toNatClampNeg) (xs (v3 + 2).toNatClampNeg) hg_141) (cwV 2 hts gL_law_X8_type rfl rfl rfl hd_X8_type ⟨Nat.le_of_ble_eq_true rfl, Nat.le_of_ble_eq_true rfl⟩) rfl (wM_0 _ _ _ _ _) rfl hl.1 rfl (Nat.le_of_ble_eq_true rfl) dL_law_141 hcs (fun H locs hM hC hS => ?_)
  refine lv_icmp_eq (tgt := 793) hx hb dL_law_144 (by decide) (fun c_144 => ?_) (fun c_144 => ?_)
  · rw [if_pos c_144] at hf
    exact w_L_793 C0 hts hcs hK hDC hDM hAC hAM hCM hMC k18 hk18 v3 r_127.2 r_141.2 hf _ _ _ hC hM hS (lv_sub hl [0, 1, 2, 3] rfl)
  · rw [if_neg c_144] at hf
    refine lv_iconst (v := 0) hx hb dL_law_147 (by decide) ?_
    exact absurd (Option.some.inj hf) (by decide)
def p_L_149 (xs : Nat → Int32) (L : Nat) (k18 : Int32 → SS → SS → Option Int32) (v3 : Int32) (σ τ : SS) : Option Int32 := oi (v3 + 1) L (oi (v3 + 2) L (oc (p_X7_face_0 (xs (v3 + 1).toNatClampNeg) (xs (v3 + 2).toNatClampNeg) σ) (fun r_160 => oi (v3 + 1) L (oi (v3 + 2) L (oc (p_X8_face_0 (xs (v3 + 1).toNatClampNeg) (xs (v3 + 2).toNatClampNeg) τ) (fun r_174 => if r_160.1 = r_174.1 then p_L_793 xs L k18 v3 r_160.2 r_174.2 else some 0))))))
set_option maxHeartbeats 4000000 in
set_option maxRecDepth 100000 in
theorem w_L_149 {p : Program} {l : Launch} {e : Env} {s : State} {m : MethodId} {below : List Frame} {meth : Method} {c : Code} {cells slots : Nat} {D : va_G} {adC adM : Nat → Nat} {cI cJ cZ : ClassId} {b L : Nat} {xs : Nat → Int32} (C0 : lw_At p s m meth c b L xs) (hts : ∀ w ∈ wsL_law, w.before #[Value.ref b] s = true) (hcs : cells ≤ room_1.cells ∧ slots ≤ room_1.slots) (hK : va_K D vwCl (tyw cI cJ cZ) s) (hDC : ∀ σ, va_D (aC adC) (wC adC cI cJ cZ σ)) (hDM : ∀ σ, va_D (aM adM) (wM adM cI cJ cZ σ)) (hAC : ∀ q, aC adC q → s.heap.size ≤ q) (hAM : ∀ q, aM adM q → s.heap.size ≤ q) (hCM : ∀ (τ : SS) (k : Nat) (x : Nat × va_E), (wM adM cI cJ cZ τ)[k]? = some x → ¬ aC adC x.1) (hMC : ∀ (σ : SS) (k : Nat) (x : Nat × va_E), (wC adC cI cJ cZ σ)[k]? = some x → ¬ aM adM x.1) (k18 : Int32 → SS → SS → Option Int32) (hk18 : ∀ (v3 : Int32) (σ τ : SS), k18 v3 σ τ = some 1 → ∀ (H : Heap) (locs : List Loc) (ls : Array Slot), va_P D vwCl (wC adC cI cJ cZ σ) H → va_P D vwCl (wM adM cI cJ cZ τ) H → va_S (fun q : Nat => s.heap.size ≤ q) s.heap H locs → lv_has ls 4 [(0, .ref b), (1, .ref (adC 0)), (2, .ref (adM 0)), (3, .int v3)] → W p l e room_1 s m #[Value.ref b] below meth c H locs cells slots (lw_Z below #[Value.ref b] s) (F0 m 18 ls [])) (v3 : Int32) (σ τ : SS) (hf : p_L_149 xs L k18 v3 σ τ = some 1) (H : Heap) (locs : List Loc) (ls : Array Slot) (hC : va_P D vwCl (wC adC cI cJ cZ σ) H) (hM : va_P D vwCl (wM adM cI cJ cZ τ) H) (hS : va_S (fun q : Nat => s.heap.size ≤ q) s.heap H locs) (hl : lv_has ls 4 [(0, .ref b), (1, .ref (adC 0)), (2, .ref (adM 0)), (3, .int v3)]) : W p l e room_1 s m #[Value.ref b] below meth c H locs cells slots (lw_Z below #[Value.ref b] s) (F0 m 149 ls []) := by
  obtain ⟨hx, hb, hr, hml, hown, -, hX, hbl, hlk, -⟩ := id C0
  have hbA : ¬ (fun q : Nat => s.heap.size ≤ q) b := Nat.not_le.mpr hbl
  unfold p_L_149 at hf
  refine lv_aload_n hx hb dL_law_149 rfl (lv_at hl 1 rfl) ?_
  refine lv_aload_n hx hb dL_law_150 rfl (lv_at hl 0 rfl) ?_
  refine lv_iload_n hx hb dL_law_151 rfl (lv_at hl 3 rfl) ?_
  refine lv_iconst (v := 1) hx hb dL_law_152 (by decide) ?_
  refine lv_iadd hx hb dL_law_153 ?_
  obtain ⟨h_154, hf⟩ := oi_e hf
  refine va_sld hx hb hX hbl hbA hS h_154 dL_law_154 ?_
  refine lv_aload_n hx hb dL_law_155 rfl (lv_at hl 0 rfl) ?_
  refine lv_iload_n hx hb dL_law_156 rfl (lv_at hl 3 rfl) ?_
  refine lv_iconst (v := 2) hx hb dL_law_157 (by decide) ?_
  refine lv_iadd hx hb dL_law_158 ?_
  obtain ⟨h_159, hf⟩ := oi_e hf
  refine va_sld hx hb hX hbl hbA hS h_159 dL_law_159 ?_
  obtain ⟨r_160, hg_160, hf⟩ := oc_e hf
  refine mL_wi (wd := wC adC cI cJ cZ) (σ := σ) (As := [.int (xs (v3 + 1).toNatClampNeg), .int (xs (v3 + 2).toNatClampNeg)]) (rest := []) ⟨hx, hb, hml, hown, hts⟩ hK hC hM (hDC _) hAC (hCM _) hS (c_X7_face l D adC cI cJ cZ σ (xs (v3 + 1).toNatClampNeg) (xs (v3 + 2).toNatClampNeg) hg_160) (cwV 2 hts gL_law_X7_face rfl rfl rfl hd_X7_face ⟨Nat.le_of_ble_eq_true rfl, Nat.le_of_ble_eq_true rfl⟩) rfl (wC_0 _ _ _ _ _) rfl hl.1 rfl (Nat.le_of_ble_eq_true rfl) dL_law_160 hcs (fun H locs hC hM hS => ?_)
  refine lv_aload_n hx hb dL_law_163 rfl (lv_at hl 2 rfl) ?_
  refine lv_aload_n hx hb dL_law_164 rfl (lv_at hl 0 rfl) ?_
  refine lv_iload_n hx hb dL_law_165 rfl (lv_at hl 3 rfl) ?_
  refine lv_iconst (v := 1) hx hb dL_law_166 (by decide) ?_
  refine lv_iadd hx hb dL_law_167 ?_
  obtain ⟨h_168, hf⟩ := oi_e hf
  refine va_sld hx hb hX hbl hbA hS h_168 dL_law_168 ?_
  refine lv_aload_n hx hb dL_law_169 rfl (lv_at hl 0 rfl) ?_
  refine lv_iload_n hx hb dL_law_170 rfl (lv_at hl 3 rfl) ?_
  refine lv_iconst (v := 2) hx hb dL_law_171 (by decide) ?_
  refine lv_iadd hx hb dL_law_172 ?_
  obtain ⟨h_173, hf⟩ := oi_e hf
  refine va_sld hx hb hX hbl hbA hS h_173 dL_law_173 ?_
  obtain ⟨r_174, hg_174, hf⟩ := oc_e hf
  refine mL_wi (wd := wM adM cI cJ cZ) (σ := τ) (As := [.int (xs (v3 + 1).toNatClampNeg), .int (xs (v3 + 2).toNatClampNeg)]) (rest := [.int r_160.1]) ⟨hx, hb, hml, hown, hts⟩ hK hM hC (hDM _) hAM (hMC _) hS (c_X8_face l D adM cI cJ cZ τ (xs (v3 + 1).toNatClampNeg) (xs (v3 + 2).toNatClampNeg) hg_174) (cwV 2 hts gL_law_X8_face rfl rfl rfl hd_X8_face ⟨Nat.le_of_ble_eq_true rfl, Nat.le_of_ble_eq_true rfl⟩) rfl (wM_0 _ _ _ _ _) rfl hl.1 rfl (Nat.le_of_ble_eq_true rfl) dL_law_174 hcs (fun H locs hM hC hS => ?_)
  refine lv_icmp_eq (tgt := 793) hx hb dL_law_177 (by decide) (fun c_177 => ?_) (fun c_177 => ?_)
  · rw [if_pos c_177] at hf
    exact w_L_793 C0 hts hcs hK hDC hDM hAC hAM hCM hMC k18 hk18 v3 r_160.2 r_174.2 hf _ _ _ hC hM hS (lv_sub hl [0, 1, 2, 3] rfl)
  · rw [if_neg c_177] at hf
    refine lv_iconst (v := 0) hx hb dL_law_180 (by decide) ?_
    exact absurd (Option.some.inj hf) (by decide)
def p_L_182 (xs : Nat → Int32) (L : Nat) (k18 : Int32 → SS → SS → Option Int32) (v3 : Int32) (σ τ : SS) : Option Int32 := oi (v3 + 1) L (oi (v3 + 2) L (oi (v3 + 3) L (oc (p_X7_member_0 (xs (v3 + 1).toNatClampNeg) (xs (v3 + 2).toNatClampNeg) (xs (v3 + 3).toNatClampNeg) σ) (fun r_198 => oi (v3 + 1) L (oi (v3 + 2) L (oi (v3 + 3) L (oc (p_X8_member_0 (xs (v3 + 1).toNatClampNeg) (xs (v3 + 2).toNatClampNeg) (xs (v3 + 3).toNatClampNeg) τ) (fun r_217 => if r_198.1 = r_217.1 then p_L_793 xs L k18 v3 r_198.2 r_217.2 else some 0))))))))
set_option maxHeartbeats 4000000 in
set_option maxRecDepth 100000 in
theorem w_L_182 {p : Program} {l : Launch} {e : Env} {s : State} {m : MethodId} {below : List Frame} {meth : Method} {c : Code} {cells slots : Nat} {D : va_G} {adC adM : Nat → Nat} {cI cJ cZ : ClassId} {b L : Nat} {xs : Nat → Int32} (C0 : lw_At p s m meth c b L xs) (hts : ∀ w ∈ wsL_law, w.before #[Value.ref b] s = true) (hcs : cells ≤ room_1.cells ∧ slots ≤ room_1.slots) (hK : va_K D vwCl (tyw cI cJ cZ) s) (hDC : ∀ σ, va_D (aC adC) (wC adC cI cJ cZ σ)) (hDM : ∀ σ, va_D (aM adM) (wM adM cI cJ cZ σ)) (hAC : ∀ q, aC adC q → s.heap.size ≤ q) (hAM : ∀ q, aM adM q → s.heap.size ≤ q) (hCM : ∀ (τ : SS) (k : Nat) (x : Nat × va_E), (wM adM cI cJ cZ τ)[k]? = some x → ¬ aC adC x.1) (hMC : ∀ (σ : SS) (k : Nat) (x : Nat × va_E), (wC adC cI cJ cZ σ)[k]? = some x → ¬ aM adM x.1) (k18 : Int32 → SS → SS → Option Int32) (hk18 : ∀ (v3 : Int32) (σ τ : SS), k18 v3 σ τ = some 1 → ∀ (H : Heap) (locs : List Loc) (ls : Array Slot), va_P D vwCl (wC adC cI cJ cZ σ) H → va_P D vwCl (wM adM cI cJ cZ τ) H → va_S (fun q : Nat => s.heap.size ≤ q) s.heap H locs → lv_has ls 4 [(0, .ref b), (1, .ref (adC 0)), (2, .ref (adM 0)), (3, .int v3)] → W p l e room_1 s m #[Value.ref b] below meth c H locs cells slots (lw_Z below #[Value.ref b] s) (F0 m 18 ls [])) (v3 : Int32) (σ τ : SS) (hf : p_L_182 xs L k18 v3 σ τ = some 1) (H : Heap) (locs : List Loc) (ls : Array Slot) (hC : va_P D vwCl (wC adC cI cJ cZ σ) H) (hM : va_P D vwCl (wM adM cI cJ cZ τ) H) (hS : va_S (fun q : Nat => s.heap.size ≤ q) s.heap H locs) (hl : lv_has ls 4 [(0, .ref b), (1, .ref (adC 0)), (2, .ref (adM 0)), (3, .int v3)]) : W p l e room_1 s m #[Value.ref b] below meth c H locs cells slots (lw_Z below #[Value.ref b] s) (F0 m 182 ls []) := by
  obtain ⟨hx, hb, hr, hml, hown, -, hX, hbl, hlk, -⟩ := id C0
  have hbA : ¬ (fun q : Nat => s.heap.size ≤ q) b := Nat.not_le.mpr hbl
  unfold p_L_182 at hf
  refine lv_aload_n hx hb dL_law_182 rfl (lv_at hl 1 rfl) ?_
  refine lv_aload_n hx hb dL_law_183 rfl (lv_at hl 0 rfl) ?_
  refine lv_iload_n hx hb dL_law_184 rfl (lv_at hl 3 rfl) ?_
  refine lv_iconst (v := 1) hx hb dL_law_185 (by decide) ?_
  refine lv_iadd hx hb dL_law_186 ?_
  obtain ⟨h_187, hf⟩ := oi_e hf
  refine va_sld hx hb hX hbl hbA hS h_187 dL_law_187 ?_
  refine lv_aload_n hx hb dL_law_188 rfl (lv_at hl 0 rfl) ?_
  refine lv_iload_n hx hb dL_law_189 rfl (lv_at hl 3 rfl) ?_
  refine lv_iconst (v := 2) hx hb dL_law_190 (by decide) ?_
  refine lv_iadd hx hb dL_law_191 ?_
  obtain ⟨h_192, hf⟩ := oi_e hf
  refine va_sld hx hb hX hbl hbA hS h_192 dL_law_192 ?_
  refine lv_aload_n hx hb dL_law_193 rfl (lv_at hl 0 rfl) ?_
  refine lv_iload_n hx hb dL_law_194 rfl (lv_at hl 3 rfl) ?_
  refine lv_iconst (v := 3) hx hb dL_law_195 (by decide) ?_
  refine lv_iadd hx hb dL_law_196 ?_
  obtain ⟨h_197, hf⟩ := oi_e hf
  refine va_sld hx hb hX hbl hbA hS h_197 dL_law_197 ?_
  obtain ⟨r_198, hg_198, hf⟩ := oc_e hf
  refine mL_wi (wd := wC adC cI cJ cZ) (σ := σ) (As := [.int (xs (v3 + 1).toNatClampNeg), .int (xs (v3 + 2).toNatClampNeg), .int (xs (v3 + 3).toNatClampNeg)]) (rest := []) ⟨hx, hb, hml, hown, hts⟩ hK hC hM (hDC _) hAC (hCM _) hS (c_X7_member l D adC cI cJ cZ σ (xs (v3 + 1).toNatClampNeg) (xs (v3 + 2).toNatClampNeg) (xs (v3 + 3).toNatClampNeg) hg_198) (cwV 3 hts gL_law_X7_member rfl rfl rfl hd_X7_member ⟨Nat.le_of_ble_eq_true rfl, Nat.le_of_ble_eq_true rfl⟩) rfl (wC_0 _ _ _ _ _) rfl hl.1 rfl (Nat.le_of_ble_eq_true rfl) dL_law_198 hcs (fun H locs hC hM hS => ?_)
  refine lv_aload_n hx hb dL_law_201 rfl (lv_at hl 2 rfl) ?_
  refine lv_aload_n hx hb dL_law_202 rfl (lv_at hl 0 rfl) ?_
  refine lv_iload_n hx hb dL_law_203 rfl (lv_at hl 3 rfl) ?_
  refine lv_iconst (v := 1) hx hb dL_law_204 (by decide) ?_
  refine lv_iadd hx hb dL_law_205 ?_
  obtain ⟨h_206, hf⟩ := oi_e hf
  refine va_sld hx hb hX hbl hbA hS h_206 dL_law_206 ?_
  refine lv_aload_n hx hb dL_law_207 rfl (lv_at hl 0 rfl) ?_
  refine lv_iload_n hx hb dL_law_208 rfl (lv_at hl 3 rfl) ?_
  refine lv_iconst (v := 2) hx hb dL_law_209 (by decide) ?_
  refine lv_iadd hx hb dL_law_210 ?_
  obtain ⟨h_211, hf⟩ := oi_e hf
  refine va_sld hx hb hX hbl hbA hS h_211 dL_law_211 ?_
  refine lv_aload_n hx hb dL_law_212 rfl (lv_at hl 0 rfl) ?_
  refine lv_iload_n hx hb dL_law_213 rfl (lv_at hl 3 rfl) ?_
  refine lv_iconst (v := 3) hx hb dL_law_214 (by decide) ?_
  refine lv_iadd hx hb dL_law_215 ?_
  obtain ⟨h_216, hf⟩ := oi_e hf
  refine va_sld hx hb hX hbl hbA hS h_216 dL_law_216 ?_
  obtain ⟨r_217, hg_217, hf⟩ := oc_e hf
  refine mL_wi (wd := wM adM cI cJ cZ) (σ := τ) (As := [.int (xs (v3 + 1).toNatClampNeg), .int (xs (v3 + 2).toNatClampNeg), .int (xs (v3 + 3).toNatClampNeg)]) (rest := [.int r_198.1]) ⟨hx, hb, hml, hown, hts⟩ hK hM hC (hDM _) hAM (hMC _) hS (c_X8_member l D adM cI cJ cZ τ (xs (v3 + 1).toNatClampNeg) (xs (v3 + 2).toNatClampNeg) (xs (v3 + 3).toNatClampNeg) hg_217) (cwV 3 hts gL_law_X8_member rfl rfl rfl hd_X8_member ⟨Nat.le_of_ble_eq_true rfl, Nat.le_of_ble_eq_true rfl⟩) rfl (wM_0 _ _ _ _ _) rfl hl.1 rfl (Nat.le_of_ble_eq_true rfl) dL_law_217 hcs (fun H locs hM hC hS => ?_)
  refine lv_icmp_eq (tgt := 793) hx hb dL_law_220 (by decide) (fun c_220 => ?_) (fun c_220 => ?_)
  · rw [if_pos c_220] at hf
    exact w_L_793 C0 hts hcs hK hDC hDM hAC hAM hCM hMC k18 hk18 v3 r_198.2 r_217.2 hf _ _ _ hC hM hS (lv_sub hl [0, 1, 2, 3] rfl)
  · rw [if_neg c_220] at hf
    refine lv_iconst (v := 0) hx hb dL_law_223 (by decide) ?_
    exact absurd (Option.some.inj hf) (by decide)
def p_L_225 (xs : Nat → Int32) (L : Nat) (k18 : Int32 → SS → SS → Option Int32) (v3 : Int32) (σ τ : SS) : Option Int32 := oi (v3 + 1) L (oi (v3 + 2) L (oi (v3 + 3) L (oi (v3 + 4) L (oc (p_X7_op_0 (xs (v3 + 1).toNatClampNeg) (xs (v3 + 2).toNatClampNeg) (xs (v3 + 3).toNatClampNeg) (xs (v3 + 4).toNatClampNeg) σ) (fun r_246 => oi (v3 + 1) L (oi (v3 + 2) L (oi (v3 + 3) L (oi (v3 + 4) L (oc (p_X8_op_0 (xs (v3 + 1).toNatClampNeg) (xs (v3 + 2).toNatClampNeg) (xs (v3 + 3).toNatClampNeg) (xs (v3 + 4).toNatClampNeg) τ) (fun r_270 => if r_246.1 = r_270.1 then p_L_793 xs L k18 v3 r_246.2 r_270.2 else some 0))))))))))
set_option maxHeartbeats 4000000 in
set_option maxRecDepth 100000 in
theorem w_L_225 {p : Program} {l : Launch} {e : Env} {s : State} {m : MethodId} {below : List Frame} {meth : Method} {c : Code} {cells slots : Nat} {D : va_G} {adC adM : Nat → Nat} {cI cJ cZ : ClassId} {b L : Nat} {xs : Nat → Int32} (C0 : lw_At p s m meth c b L xs) (hts : ∀ w ∈ wsL_law, w.before #[Value.ref b] s = true) (hcs : cells ≤ room_1.cells ∧ slots ≤ room_1.slots) (hK : va_K D vwCl (tyw cI cJ cZ) s) (hDC : ∀ σ, va_D (aC adC) (wC adC cI cJ cZ σ)) (hDM : ∀ σ, va_D (aM adM) (wM adM cI cJ cZ σ)) (hAC : ∀ q, aC adC q → s.heap.size ≤ q) (hAM : ∀ q, aM adM q → s.heap.size ≤ q) (hCM : ∀ (τ : SS) (k : Nat) (x : Nat × va_E), (wM adM cI cJ cZ τ)[k]? = some x → ¬ aC adC x.1) (hMC : ∀ (σ : SS) (k : Nat) (x : Nat × va_E), (wC adC cI cJ cZ σ)[k]? = some x → ¬ aM adM x.1) (k18 : Int32 → SS → SS → Option Int32) (hk18 : ∀ (v3 : Int32) (σ τ : SS), k18 v3 σ τ = some 1 → ∀ (H : Heap) (locs : List Loc) (ls : Array Slot), va_P D vwCl (wC adC cI cJ cZ σ) H → va_P D vwCl (wM adM cI cJ cZ τ) H → va_S (fun q : Nat => s.heap.size ≤ q) s.heap H locs → lv_has ls 4 [(0, .ref b), (1, .ref (adC 0)), (2, .ref (adM 0)), (3, .int v3)] → W p l e room_1 s m #[Value.ref b] below meth c H locs cells slots (lw_Z below #[Value.ref b] s) (F0 m 18 ls [])) (v3 : Int32) (σ τ : SS) (hf : p_L_225 xs L k18 v3 σ τ = some 1) (H : Heap) (locs : List Loc) (ls : Array Slot) (hC : va_P D vwCl (wC adC cI cJ cZ σ) H) (hM : va_P D vwCl (wM adM cI cJ cZ τ) H) (hS : va_S (fun q : Nat => s.heap.size ≤ q) s.heap H locs) (hl : lv_has ls 4 [(0, .ref b), (1, .ref (adC 0)), (2, .ref (adM 0)), (3, .int v3)]) : W p l e room_1 s m #[Value.ref b] below meth c H locs cells slots (lw_Z below #[Value.ref b] s) (F0 m 225 ls []) := by
  obtain ⟨hx, hb, hr, hml, hown, -, hX, hbl, hlk, -⟩ := id C0
  have hbA : ¬ (fun q : Nat => s.heap.size ≤ q) b := Nat.not_le.mpr hbl
  unfold p_L_225 at hf
  refine lv_aload_n hx hb dL_law_225 rfl (lv_at hl 1 rfl) ?_
  refine lv_aload_n hx hb dL_law_226 rfl (lv_at hl 0 rfl) ?_
  refine lv_iload_n hx hb dL_law_227 rfl (lv_at hl 3 rfl) ?_
  refine lv_iconst (v := 1) hx hb dL_law_228 (by decide) ?_
  refine lv_iadd hx hb dL_law_229 ?_
  obtain ⟨h_230, hf⟩ := oi_e hf
  refine va_sld hx hb hX hbl hbA hS h_230 dL_law_230 ?_
  refine lv_aload_n hx hb dL_law_231 rfl (lv_at hl 0 rfl) ?_
  refine lv_iload_n hx hb dL_law_232 rfl (lv_at hl 3 rfl) ?_
  refine lv_iconst (v := 2) hx hb dL_law_233 (by decide) ?_
  refine lv_iadd hx hb dL_law_234 ?_
  obtain ⟨h_235, hf⟩ := oi_e hf
  refine va_sld hx hb hX hbl hbA hS h_235 dL_law_235 ?_
  refine lv_aload_n hx hb dL_law_236 rfl (lv_at hl 0 rfl) ?_
  refine lv_iload_n hx hb dL_law_237 rfl (lv_at hl 3 rfl) ?_
  refine lv_iconst (v := 3) hx hb dL_law_238 (by decide) ?_
  refine lv_iadd hx hb dL_law_239 ?_
  obtain ⟨h_240, hf⟩ := oi_e hf
  refine va_sld hx hb hX hbl hbA hS h_240 dL_law_240 ?_
  refine lv_aload_n hx hb dL_law_241 rfl (lv_at hl 0 rfl) ?_
  refine lv_iload_n hx hb dL_law_242 rfl (lv_at hl 3 rfl) ?_
  refine lv_iconst (v := 4) hx hb dL_law_243 (by decide) ?_
  refine lv_iadd hx hb dL_law_244 ?_
  obtain ⟨h_245, hf⟩ := oi_e hf
  refine va_sld hx hb hX hbl hbA hS h_245 dL_law_245 ?_
  obtain ⟨r_246, hg_246, hf⟩ := oc_e hf
  refine mL_wi (wd := wC adC cI cJ cZ) (σ := σ) (As := [.int (xs (v3 + 1).toNatClampNeg), .int (xs (v3 + 2).toNatClampNeg), .int (xs (v3 + 3).toNatClampNeg), .int (xs (v3 + 4).toNatClampNeg)]) (rest := []) ⟨hx, hb, hml, hown, hts⟩ hK hC hM (hDC _) hAC (hCM _) hS (c_X7_op l D adC cI cJ cZ σ (xs (v3 + 1).toNatClampNeg) (xs (v3 + 2).toNatClampNeg) (xs (v3 + 3).toNatClampNeg) (xs (v3 + 4).toNatClampNeg) hg_246) (cwV 4 hts gL_law_X7_op rfl rfl rfl hd_X7_op ⟨Nat.le_of_ble_eq_true rfl, Nat.le_of_ble_eq_true rfl⟩) rfl (wC_0 _ _ _ _ _) rfl hl.1 rfl (Nat.le_of_ble_eq_true rfl) dL_law_246 hcs (fun H locs hC hM hS => ?_)
  refine lv_aload_n hx hb dL_law_249 rfl (lv_at hl 2 rfl) ?_
  refine lv_aload_n hx hb dL_law_250 rfl (lv_at hl 0 rfl) ?_
  refine lv_iload_n hx hb dL_law_251 rfl (lv_at hl 3 rfl) ?_
  refine lv_iconst (v := 1) hx hb dL_law_252 (by decide) ?_
  refine lv_iadd hx hb dL_law_253 ?_
  obtain ⟨h_254, hf⟩ := oi_e hf
  refine va_sld hx hb hX hbl hbA hS h_254 dL_law_254 ?_
  refine lv_aload_n hx hb dL_law_255 rfl (lv_at hl 0 rfl) ?_
  refine lv_iload_n hx hb dL_law_256 rfl (lv_at hl 3 rfl) ?_
  refine lv_iconst (v := 2) hx hb dL_law_257 (by decide) ?_
  refine lv_iadd hx hb dL_law_258 ?_
  obtain ⟨h_259, hf⟩ := oi_e hf
  refine va_sld hx hb hX hbl hbA hS h_259 dL_law_259 ?_
  refine lv_aload_n hx hb dL_law_260 rfl (lv_at hl 0 rfl) ?_
  refine lv_iload_n hx hb dL_law_261 rfl (lv_at hl 3 rfl) ?_
  refine lv_iconst (v := 3) hx hb dL_law_262 (by decide) ?_
  refine lv_iadd hx hb dL_law_263 ?_
  obtain ⟨h_264, hf⟩ := oi_e hf
  refine va_sld hx hb hX hbl hbA hS h_264 dL_law_264 ?_
  refine lv_aload_n hx hb dL_law_265 rfl (lv_at hl 0 rfl) ?_
  refine lv_iload_n hx hb dL_law_266 rfl (lv_at hl 3 rfl) ?_
  refine lv_iconst (v := 4) hx hb dL_law_267 (by decide) ?_
  refine lv_iadd hx hb dL_law_268 ?_
  obtain ⟨h_269, hf⟩ := oi_e hf
  refine va_sld hx hb hX hbl hbA hS h_269 dL_law_269 ?_
  obtain ⟨r_270, hg_270, hf⟩ := oc_e hf
  refine mL_wi (wd := wM adM cI cJ cZ) (σ := τ) (As := [.int (xs (v3 + 1).toNatClampNeg), .int (xs (v3 + 2).toNatClampNeg), .int (xs (v3 + 3).toNatClampNeg), .int (xs (v3 + 4).toNatClampNeg)]) (rest := [.int r_246.1]) ⟨hx, hb, hml, hown, hts⟩ hK hM hC (hDM _) hAM (hMC _) hS (c_X8_op l D adM cI cJ cZ τ (xs (v3 + 1).toNatClampNeg) (xs (v3 + 2).toNatClampNeg) (xs (v3 + 3).toNatClampNeg) (xs (v3 + 4).toNatClampNeg) hg_270) (cwV 4 hts gL_law_X8_op rfl rfl rfl hd_X8_op ⟨Nat.le_of_ble_eq_true rfl, Nat.le_of_ble_eq_true rfl⟩) rfl (wM_0 _ _ _ _ _) rfl hl.1 rfl (Nat.le_of_ble_eq_true rfl) dL_law_270 hcs (fun H locs hM hC hS => ?_)
  refine lv_icmp_eq (tgt := 793) hx hb dL_law_273 (by decide) (fun c_273 => ?_) (fun c_273 => ?_)
  · rw [if_pos c_273] at hf
    exact w_L_793 C0 hts hcs hK hDC hDM hAC hAM hCM hMC k18 hk18 v3 r_246.2 r_270.2 hf _ _ _ hC hM hS (lv_sub hl [0, 1, 2, 3] rfl)
  · rw [if_neg c_273] at hf
    refine lv_iconst (v := 0) hx hb dL_law_276 (by decide) ?_
    exact absurd (Option.some.inj hf) (by decide)
def p_L_319 (xs : Nat → Int32) (L : Nat) (k18 : Int32 → SS → SS → Option Int32) (v3 : Int32) (t0 : Int32) (t1 : Int32) (t3 : Int32) (σ τ : SS) : Option Int32 := oc (p_X8_root_0 t1 t0 τ) (fun r_319 => if t3 = r_319.1 then p_L_793 xs L k18 v3 σ r_319.2 else some 0)
set_option maxHeartbeats 4000000 in
set_option maxRecDepth 100000 in
theorem w_L_319 {p : Program} {l : Launch} {e : Env} {s : State} {m : MethodId} {below : List Frame} {meth : Method} {c : Code} {cells slots : Nat} {D : va_G} {adC adM : Nat → Nat} {cI cJ cZ : ClassId} {b L : Nat} {xs : Nat → Int32} (C0 : lw_At p s m meth c b L xs) (hts : ∀ w ∈ wsL_law, w.before #[Value.ref b] s = true) (hcs : cells ≤ room_1.cells ∧ slots ≤ room_1.slots) (hK : va_K D vwCl (tyw cI cJ cZ) s) (hDC : ∀ σ, va_D (aC adC) (wC adC cI cJ cZ σ)) (hDM : ∀ σ, va_D (aM adM) (wM adM cI cJ cZ σ)) (hAC : ∀ q, aC adC q → s.heap.size ≤ q) (hAM : ∀ q, aM adM q → s.heap.size ≤ q) (hCM : ∀ (τ : SS) (k : Nat) (x : Nat × va_E), (wM adM cI cJ cZ τ)[k]? = some x → ¬ aC adC x.1) (hMC : ∀ (σ : SS) (k : Nat) (x : Nat × va_E), (wC adC cI cJ cZ σ)[k]? = some x → ¬ aM adM x.1) (k18 : Int32 → SS → SS → Option Int32) (hk18 : ∀ (v3 : Int32) (σ τ : SS), k18 v3 σ τ = some 1 → ∀ (H : Heap) (locs : List Loc) (ls : Array Slot), va_P D vwCl (wC adC cI cJ cZ σ) H → va_P D vwCl (wM adM cI cJ cZ τ) H → va_S (fun q : Nat => s.heap.size ≤ q) s.heap H locs → lv_has ls 4 [(0, .ref b), (1, .ref (adC 0)), (2, .ref (adM 0)), (3, .int v3)] → W p l e room_1 s m #[Value.ref b] below meth c H locs cells slots (lw_Z below #[Value.ref b] s) (F0 m 18 ls [])) (v3 : Int32) (t0 : Int32) (t1 : Int32) (t3 : Int32) (σ τ : SS) (hf : p_L_319 xs L k18 v3 t0 t1 t3 σ τ = some 1) (H : Heap) (locs : List Loc) (ls : Array Slot) (hC : va_P D vwCl (wC adC cI cJ cZ σ) H) (hM : va_P D vwCl (wM adM cI cJ cZ τ) H) (hS : va_S (fun q : Nat => s.heap.size ≤ q) s.heap H locs) (hl : lv_has ls 4 [(0, .ref b), (1, .ref (adC 0)), (2, .ref (adM 0)), (3, .int v3)]) : W p l e room_1 s m #[Value.ref b] below meth c H locs cells slots (lw_Z below #[Value.ref b] s) (F0 m 319 ls [.int t0, .int t1, .ref (adM 0), .int t3]) := by
  obtain ⟨hx, hb, hr, hml, hown, -, hX, hbl, hlk, -⟩ := id C0
  have hbA : ¬ (fun q : Nat => s.heap.size ≤ q) b := Nat.not_le.mpr hbl
  unfold p_L_319 at hf
  obtain ⟨r_319, hg_319, hf⟩ := oc_e hf
  refine mL_wi (wd := wM adM cI cJ cZ) (σ := τ) (As := [.int t1, .int t0]) (rest := [.int t3]) ⟨hx, hb, hml, hown, hts⟩ hK hM hC (hDM _) hAM (hMC _) hS (c_X8_root l D adM cI cJ cZ τ t1 t0 hg_319) (cwV 2 hts gL_law_X8_root rfl rfl rfl hd_X8_root ⟨Nat.le_of_ble_eq_true rfl, Nat.le_of_ble_eq_true rfl⟩) rfl (wM_0 _ _ _ _ _) rfl hl.1 rfl (Nat.le_of_ble_eq_true rfl) dL_law_319 hcs (fun H locs hM hC hS => ?_)
  refine lv_icmp_eq (tgt := 793) hx hb dL_law_322 (by decide) (fun c_322 => ?_) (fun c_322 => ?_)
  · rw [if_pos c_322] at hf
    exact w_L_793 C0 hts hcs hK hDC hDM hAC hAM hCM hMC k18 hk18 v3 σ r_319.2 hf _ _ _ hC hM hS (lv_sub hl [0, 1, 2, 3] rfl)
  · rw [if_neg c_322] at hf
    refine lv_iconst (v := 0) hx hb dL_law_325 (by decide) ?_
    exact absurd (Option.some.inj hf) (by decide)
def p_L_297 (xs : Nat → Int32) (L : Nat) (k18 : Int32 → SS → SS → Option Int32) (v3 : Int32) (t0 : Int32) (t1 : Int32) (σ τ : SS) : Option Int32 := oc (p_X7_root_0 t1 t0 σ) (fun r_297 => oi (v3 + 1) L (oi (v3 + 2) L (if (xs (v3 + 2).toNatClampNeg) = 0 then p_L_319 xs L k18 v3 0 (xs (v3 + 1).toNatClampNeg) r_297.1 r_297.2 τ else p_L_319 xs L k18 v3 1 (xs (v3 + 1).toNatClampNeg) r_297.1 r_297.2 τ)))
set_option maxHeartbeats 4000000 in
set_option maxRecDepth 100000 in
theorem w_L_297 {p : Program} {l : Launch} {e : Env} {s : State} {m : MethodId} {below : List Frame} {meth : Method} {c : Code} {cells slots : Nat} {D : va_G} {adC adM : Nat → Nat} {cI cJ cZ : ClassId} {b L : Nat} {xs : Nat → Int32} (C0 : lw_At p s m meth c b L xs) (hts : ∀ w ∈ wsL_law, w.before #[Value.ref b] s = true) (hcs : cells ≤ room_1.cells ∧ slots ≤ room_1.slots) (hK : va_K D vwCl (tyw cI cJ cZ) s) (hDC : ∀ σ, va_D (aC adC) (wC adC cI cJ cZ σ)) (hDM : ∀ σ, va_D (aM adM) (wM adM cI cJ cZ σ)) (hAC : ∀ q, aC adC q → s.heap.size ≤ q) (hAM : ∀ q, aM adM q → s.heap.size ≤ q) (hCM : ∀ (τ : SS) (k : Nat) (x : Nat × va_E), (wM adM cI cJ cZ τ)[k]? = some x → ¬ aC adC x.1) (hMC : ∀ (σ : SS) (k : Nat) (x : Nat × va_E), (wC adC cI cJ cZ σ)[k]? = some x → ¬ aM adM x.1) (k18 : Int32 → SS → SS → Option Int32) (hk18 : ∀ (v3 : Int32) (σ τ : SS), k18 v3 σ τ = some 1 → ∀ (H : Heap) (locs : List Loc) (ls : Array Slot), va_P D vwCl (wC adC cI cJ cZ σ) H → va_P D vwCl (wM adM cI cJ cZ τ) H → va_S (fun q : Nat => s.heap.size ≤ q) s.heap H locs → lv_has ls 4 [(0, .ref b), (1, .ref (adC 0)), (2, .ref (adM 0)), (3, .int v3)] → W p l e room_1 s m #[Value.ref b] below meth c H locs cells slots (lw_Z below #[Value.ref b] s) (F0 m 18 ls [])) (v3 : Int32) (t0 : Int32) (t1 : Int32) (σ τ : SS) (hf : p_L_297 xs L k18 v3 t0 t1 σ τ = some 1) (H : Heap) (locs : List Loc) (ls : Array Slot) (hC : va_P D vwCl (wC adC cI cJ cZ σ) H) (hM : va_P D vwCl (wM adM cI cJ cZ τ) H) (hS : va_S (fun q : Nat => s.heap.size ≤ q) s.heap H locs) (hl : lv_has ls 4 [(0, .ref b), (1, .ref (adC 0)), (2, .ref (adM 0)), (3, .int v3)]) : W p l e room_1 s m #[Value.ref b] below meth c H locs cells slots (lw_Z below #[Value.ref b] s) (F0 m 297 ls [.int t0, .int t1, .ref (adC 0)]) := by
  obtain ⟨hx, hb, hr, hml, hown, -, hX, hbl, hlk, -⟩ := id C0
  have hbA : ¬ (fun q : Nat => s.heap.size ≤ q) b := Nat.not_le.mpr hbl
  unfold p_L_297 at hf
  obtain ⟨r_297, hg_297, hf⟩ := oc_e hf
  refine mL_wi (wd := wC adC cI cJ cZ) (σ := σ) (As := [.int t1, .int t0]) (rest := []) ⟨hx, hb, hml, hown, hts⟩ hK hC hM (hDC _) hAC (hCM _) hS (c_X7_root l D adC cI cJ cZ σ t1 t0 hg_297) (cwV 2 hts gL_law_X7_root rfl rfl rfl hd_X7_root ⟨Nat.le_of_ble_eq_true rfl, Nat.le_of_ble_eq_true rfl⟩) rfl (wC_0 _ _ _ _ _) rfl hl.1 rfl (Nat.le_of_ble_eq_true rfl) dL_law_297 hcs (fun H locs hC hM hS => ?_)
  refine lv_aload_n hx hb dL_law_300 rfl (lv_at hl 2 rfl) ?_
  refine lv_aload_n hx hb dL_law_301 rfl (lv_at hl 0 rfl) ?_
  refine lv_iload_n hx hb dL_law_302 rfl (lv_at hl 3 rfl) ?_
  refine lv_iconst (v := 1) hx hb dL_law_303 (by decide) ?_
  refine lv_iadd hx hb dL_law_304 ?_
  obtain ⟨h_305, hf⟩ := oi_e hf
  refine va_sld hx hb hX hbl hbA hS h_305 dL_law_305 ?_
  refine lv_aload_n hx hb dL_law_306 rfl (lv_at hl 0 rfl) ?_
  refine lv_iload_n hx hb dL_law_307 rfl (lv_at hl 3 rfl) ?_
  refine lv_iconst (v := 2) hx hb dL_law_308 (by decide) ?_
  refine lv_iadd hx hb dL_law_309 ?_
  obtain ⟨h_310, hf⟩ := oi_e hf
  refine va_sld hx hb hX hbl hbA hS h_310 dL_law_310 ?_
  refine lv_if_eq (tgt := 318) hx hb dL_law_311 (by decide) (fun c_311 => ?_) (fun c_311 => ?_)
  · rw [if_pos c_311] at hf
    refine lv_iconst (v := 0) hx hb dL_law_318 (by decide) ?_
    exact w_L_319 C0 hts hcs hK hDC hDM hAC hAM hCM hMC k18 hk18 v3 0 (xs (v3 + 1).toNatClampNeg) r_297.1 r_297.2 τ hf _ _ _ hC hM hS (lv_sub hl [0, 1, 2, 3] rfl)
  · rw [if_neg c_311] at hf
    refine lv_iconst (v := 1) hx hb dL_law_314 (by decide) ?_
    refine lv_goto (tgt := 319) hx hb dL_law_315 (by decide) ?_
    exact w_L_319 C0 hts hcs hK hDC hDM hAC hAM hCM hMC k18 hk18 v3 1 (xs (v3 + 1).toNatClampNeg) r_297.1 r_297.2 τ hf _ _ _ hC hM hS (lv_sub hl [0, 1, 2, 3] rfl)
def p_L_278 (xs : Nat → Int32) (L : Nat) (k18 : Int32 → SS → SS → Option Int32) (v3 : Int32) (σ τ : SS) : Option Int32 := oi (v3 + 1) L (oi (v3 + 2) L (if (xs (v3 + 2).toNatClampNeg) = 0 then p_L_297 xs L k18 v3 0 (xs (v3 + 1).toNatClampNeg) σ τ else p_L_297 xs L k18 v3 1 (xs (v3 + 1).toNatClampNeg) σ τ))
set_option maxHeartbeats 4000000 in
set_option maxRecDepth 100000 in
theorem w_L_278 {p : Program} {l : Launch} {e : Env} {s : State} {m : MethodId} {below : List Frame} {meth : Method} {c : Code} {cells slots : Nat} {D : va_G} {adC adM : Nat → Nat} {cI cJ cZ : ClassId} {b L : Nat} {xs : Nat → Int32} (C0 : lw_At p s m meth c b L xs) (hts : ∀ w ∈ wsL_law, w.before #[Value.ref b] s = true) (hcs : cells ≤ room_1.cells ∧ slots ≤ room_1.slots) (hK : va_K D vwCl (tyw cI cJ cZ) s) (hDC : ∀ σ, va_D (aC adC) (wC adC cI cJ cZ σ)) (hDM : ∀ σ, va_D (aM adM) (wM adM cI cJ cZ σ)) (hAC : ∀ q, aC adC q → s.heap.size ≤ q) (hAM : ∀ q, aM adM q → s.heap.size ≤ q) (hCM : ∀ (τ : SS) (k : Nat) (x : Nat × va_E), (wM adM cI cJ cZ τ)[k]? = some x → ¬ aC adC x.1) (hMC : ∀ (σ : SS) (k : Nat) (x : Nat × va_E), (wC adC cI cJ cZ σ)[k]? = some x → ¬ aM adM x.1) (k18 : Int32 → SS → SS → Option Int32) (hk18 : ∀ (v3 : Int32) (σ τ : SS), k18 v3 σ τ = some 1 → ∀ (H : Heap) (locs : List Loc) (ls : Array Slot), va_P D vwCl (wC adC cI cJ cZ σ) H → va_P D vwCl (wM adM cI cJ cZ τ) H → va_S (fun q : Nat => s.heap.size ≤ q) s.heap H locs → lv_has ls 4 [(0, .ref b), (1, .ref (adC 0)), (2, .ref (adM 0)), (3, .int v3)] → W p l e room_1 s m #[Value.ref b] below meth c H locs cells slots (lw_Z below #[Value.ref b] s) (F0 m 18 ls [])) (v3 : Int32) (σ τ : SS) (hf : p_L_278 xs L k18 v3 σ τ = some 1) (H : Heap) (locs : List Loc) (ls : Array Slot) (hC : va_P D vwCl (wC adC cI cJ cZ σ) H) (hM : va_P D vwCl (wM adM cI cJ cZ τ) H) (hS : va_S (fun q : Nat => s.heap.size ≤ q) s.heap H locs) (hl : lv_has ls 4 [(0, .ref b), (1, .ref (adC 0)), (2, .ref (adM 0)), (3, .int v3)]) : W p l e room_1 s m #[Value.ref b] below meth c H locs cells slots (lw_Z below #[Value.ref b] s) (F0 m 278 ls []) := by
  obtain ⟨hx, hb, hr, hml, hown, -, hX, hbl, hlk, -⟩ := id C0
  have hbA : ¬ (fun q : Nat => s.heap.size ≤ q) b := Nat.not_le.mpr hbl
  unfold p_L_278 at hf
  refine lv_aload_n hx hb dL_law_278 rfl (lv_at hl 1 rfl) ?_
  refine lv_aload_n hx hb dL_law_279 rfl (lv_at hl 0 rfl) ?_
  refine lv_iload_n hx hb dL_law_280 rfl (lv_at hl 3 rfl) ?_
  refine lv_iconst (v := 1) hx hb dL_law_281 (by decide) ?_
  refine lv_iadd hx hb dL_law_282 ?_
  obtain ⟨h_283, hf⟩ := oi_e hf
  refine va_sld hx hb hX hbl hbA hS h_283 dL_law_283 ?_
  refine lv_aload_n hx hb dL_law_284 rfl (lv_at hl 0 rfl) ?_
  refine lv_iload_n hx hb dL_law_285 rfl (lv_at hl 3 rfl) ?_
  refine lv_iconst (v := 2) hx hb dL_law_286 (by decide) ?_
  refine lv_iadd hx hb dL_law_287 ?_
  obtain ⟨h_288, hf⟩ := oi_e hf
  refine va_sld hx hb hX hbl hbA hS h_288 dL_law_288 ?_
  refine lv_if_eq (tgt := 296) hx hb dL_law_289 (by decide) (fun c_289 => ?_) (fun c_289 => ?_)
  · rw [if_pos c_289] at hf
    refine lv_iconst (v := 0) hx hb dL_law_296 (by decide) ?_
    exact w_L_297 C0 hts hcs hK hDC hDM hAC hAM hCM hMC k18 hk18 v3 0 (xs (v3 + 1).toNatClampNeg) σ τ hf _ _ _ hC hM hS (lv_sub hl [0, 1, 2, 3] rfl)
  · rw [if_neg c_289] at hf
    refine lv_iconst (v := 1) hx hb dL_law_292 (by decide) ?_
    refine lv_goto (tgt := 297) hx hb dL_law_293 (by decide) ?_
    exact w_L_297 C0 hts hcs hK hDC hDM hAC hAM hCM hMC k18 hk18 v3 1 (xs (v3 + 1).toNatClampNeg) σ τ hf _ _ _ hC hM hS (lv_sub hl [0, 1, 2, 3] rfl)
def p_L_327 (xs : Nat → Int32) (L : Nat) (k18 : Int32 → SS → SS → Option Int32) (v3 : Int32) (σ τ : SS) : Option Int32 := oi (v3 + 1) L (oc (p_X7_count_0 (xs (v3 + 1).toNatClampNeg) σ) (fun r_333 => oi (v3 + 1) L (oc (p_X8_count_0 (xs (v3 + 1).toNatClampNeg) τ) (fun r_342 => if r_333.1 = r_342.1 then p_L_793 xs L k18 v3 r_333.2 r_342.2 else some 0))))
set_option maxHeartbeats 4000000 in
set_option maxRecDepth 100000 in
theorem w_L_327 {p : Program} {l : Launch} {e : Env} {s : State} {m : MethodId} {below : List Frame} {meth : Method} {c : Code} {cells slots : Nat} {D : va_G} {adC adM : Nat → Nat} {cI cJ cZ : ClassId} {b L : Nat} {xs : Nat → Int32} (C0 : lw_At p s m meth c b L xs) (hts : ∀ w ∈ wsL_law, w.before #[Value.ref b] s = true) (hcs : cells ≤ room_1.cells ∧ slots ≤ room_1.slots) (hK : va_K D vwCl (tyw cI cJ cZ) s) (hDC : ∀ σ, va_D (aC adC) (wC adC cI cJ cZ σ)) (hDM : ∀ σ, va_D (aM adM) (wM adM cI cJ cZ σ)) (hAC : ∀ q, aC adC q → s.heap.size ≤ q) (hAM : ∀ q, aM adM q → s.heap.size ≤ q) (hCM : ∀ (τ : SS) (k : Nat) (x : Nat × va_E), (wM adM cI cJ cZ τ)[k]? = some x → ¬ aC adC x.1) (hMC : ∀ (σ : SS) (k : Nat) (x : Nat × va_E), (wC adC cI cJ cZ σ)[k]? = some x → ¬ aM adM x.1) (k18 : Int32 → SS → SS → Option Int32) (hk18 : ∀ (v3 : Int32) (σ τ : SS), k18 v3 σ τ = some 1 → ∀ (H : Heap) (locs : List Loc) (ls : Array Slot), va_P D vwCl (wC adC cI cJ cZ σ) H → va_P D vwCl (wM adM cI cJ cZ τ) H → va_S (fun q : Nat => s.heap.size ≤ q) s.heap H locs → lv_has ls 4 [(0, .ref b), (1, .ref (adC 0)), (2, .ref (adM 0)), (3, .int v3)] → W p l e room_1 s m #[Value.ref b] below meth c H locs cells slots (lw_Z below #[Value.ref b] s) (F0 m 18 ls [])) (v3 : Int32) (σ τ : SS) (hf : p_L_327 xs L k18 v3 σ τ = some 1) (H : Heap) (locs : List Loc) (ls : Array Slot) (hC : va_P D vwCl (wC adC cI cJ cZ σ) H) (hM : va_P D vwCl (wM adM cI cJ cZ τ) H) (hS : va_S (fun q : Nat => s.heap.size ≤ q) s.heap H locs) (hl : lv_has ls 4 [(0, .ref b), (1, .ref (adC 0)), (2, .ref (adM 0)), (3, .int v3)]) : W p l e room_1 s m #[Value.ref b] below meth c H locs cells slots (lw_Z below #[Value.ref b] s) (F0 m 327 ls []) := by
  obtain ⟨hx, hb, hr, hml, hown, -, hX, hbl, hlk, -⟩ := id C0
  have hbA : ¬ (fun q : Nat => s.heap.size ≤ q) b := Nat.not_le.mpr hbl
  unfold p_L_327 at hf
  refine lv_aload_n hx hb dL_law_327 rfl (lv_at hl 1 rfl) ?_
  refine lv_aload_n hx hb dL_law_328 rfl (lv_at hl 0 rfl) ?_
  refine lv_iload_n hx hb dL_law_329 rfl (lv_at hl 3 rfl) ?_
  refine lv_iconst (v := 1) hx hb dL_law_330 (by decide) ?_
  refine lv_iadd hx hb dL_law_331 ?_
  obtain ⟨h_332, hf⟩ := oi_e hf
  refine va_sld hx hb hX hbl hbA hS h_332 dL_law_332 ?_
  obtain ⟨r_333, hg_333, hf⟩ := oc_e hf
  refine mL_wi (wd := wC adC cI cJ cZ) (σ := σ) (As := [.int (xs (v3 + 1).toNatClampNeg)]) (rest := []) ⟨hx, hb, hml, hown, hts⟩ hK hC hM (hDC _) hAC (hCM _) hS (c_X7_count l D adC cI cJ cZ σ (xs (v3 + 1).toNatClampNeg) hg_333) (cwV 1 hts gL_law_X7_count rfl rfl rfl hd_X7_count ⟨Nat.le_of_ble_eq_true rfl, Nat.le_of_ble_eq_true rfl⟩) rfl (wC_0 _ _ _ _ _) rfl hl.1 rfl (Nat.le_of_ble_eq_true rfl) dL_law_333 hcs (fun H locs hC hM hS => ?_)
  refine lv_aload_n hx hb dL_law_336 rfl (lv_at hl 2 rfl) ?_
  refine lv_aload_n hx hb dL_law_337 rfl (lv_at hl 0 rfl) ?_
  refine lv_iload_n hx hb dL_law_338 rfl (lv_at hl 3 rfl) ?_
  refine lv_iconst (v := 1) hx hb dL_law_339 (by decide) ?_
  refine lv_iadd hx hb dL_law_340 ?_
  obtain ⟨h_341, hf⟩ := oi_e hf
  refine va_sld hx hb hX hbl hbA hS h_341 dL_law_341 ?_
  obtain ⟨r_342, hg_342, hf⟩ := oc_e hf
  refine mL_wi (wd := wM adM cI cJ cZ) (σ := τ) (As := [.int (xs (v3 + 1).toNatClampNeg)]) (rest := [.int r_333.1]) ⟨hx, hb, hml, hown, hts⟩ hK hM hC (hDM _) hAM (hMC _) hS (c_X8_count l D adM cI cJ cZ τ (xs (v3 + 1).toNatClampNeg) hg_342) (cwV 1 hts gL_law_X8_count rfl rfl rfl hd_X8_count ⟨Nat.le_of_ble_eq_true rfl, Nat.le_of_ble_eq_true rfl⟩) rfl (wM_0 _ _ _ _ _) rfl hl.1 rfl (Nat.le_of_ble_eq_true rfl) dL_law_342 hcs (fun H locs hM hC hS => ?_)
  refine lv_icmp_eq (tgt := 793) hx hb dL_law_345 (by decide) (fun c_345 => ?_) (fun c_345 => ?_)
  · rw [if_pos c_345] at hf
    exact w_L_793 C0 hts hcs hK hDC hDM hAC hAM hCM hMC k18 hk18 v3 r_333.2 r_342.2 hf _ _ _ hC hM hS (lv_sub hl [0, 1, 2, 3] rfl)
  · rw [if_neg c_345] at hf
    refine lv_iconst (v := 0) hx hb dL_law_348 (by decide) ?_
    exact absurd (Option.some.inj hf) (by decide)
def p_L_350 (xs : Nat → Int32) (L : Nat) (k18 : Int32 → SS → SS → Option Int32) (v3 : Int32) (σ τ : SS) : Option Int32 := oi (v3 + 1) L (oi (v3 + 2) L (oc (p_X7_under_0 σ (xs (v3 + 1).toNatClampNeg) (xs (v3 + 2).toNatClampNeg)) (fun r_361 => oi (v3 + 1) L (oi (v3 + 2) L (oc (p_X8_under_0 (xs (v3 + 1).toNatClampNeg) (xs (v3 + 2).toNatClampNeg) τ) (fun r_375 => if r_361 = r_375.1 then p_L_793 xs L k18 v3 σ r_375.2 else some 0))))))
set_option maxHeartbeats 4000000 in
set_option maxRecDepth 100000 in
theorem w_L_350 {p : Program} {l : Launch} {e : Env} {s : State} {m : MethodId} {below : List Frame} {meth : Method} {c : Code} {cells slots : Nat} {D : va_G} {adC adM : Nat → Nat} {cI cJ cZ : ClassId} {b L : Nat} {xs : Nat → Int32} (C0 : lw_At p s m meth c b L xs) (hts : ∀ w ∈ wsL_law, w.before #[Value.ref b] s = true) (hcs : cells ≤ room_1.cells ∧ slots ≤ room_1.slots) (hK : va_K D vwCl (tyw cI cJ cZ) s) (hDC : ∀ σ, va_D (aC adC) (wC adC cI cJ cZ σ)) (hDM : ∀ σ, va_D (aM adM) (wM adM cI cJ cZ σ)) (hAC : ∀ q, aC adC q → s.heap.size ≤ q) (hAM : ∀ q, aM adM q → s.heap.size ≤ q) (hCM : ∀ (τ : SS) (k : Nat) (x : Nat × va_E), (wM adM cI cJ cZ τ)[k]? = some x → ¬ aC adC x.1) (hMC : ∀ (σ : SS) (k : Nat) (x : Nat × va_E), (wC adC cI cJ cZ σ)[k]? = some x → ¬ aM adM x.1) (k18 : Int32 → SS → SS → Option Int32) (hk18 : ∀ (v3 : Int32) (σ τ : SS), k18 v3 σ τ = some 1 → ∀ (H : Heap) (locs : List Loc) (ls : Array Slot), va_P D vwCl (wC adC cI cJ cZ σ) H → va_P D vwCl (wM adM cI cJ cZ τ) H → va_S (fun q : Nat => s.heap.size ≤ q) s.heap H locs → lv_has ls 4 [(0, .ref b), (1, .ref (adC 0)), (2, .ref (adM 0)), (3, .int v3)] → W p l e room_1 s m #[Value.ref b] below meth c H locs cells slots (lw_Z below #[Value.ref b] s) (F0 m 18 ls [])) (v3 : Int32) (σ τ : SS) (hf : p_L_350 xs L k18 v3 σ τ = some 1) (H : Heap) (locs : List Loc) (ls : Array Slot) (hC : va_P D vwCl (wC adC cI cJ cZ σ) H) (hM : va_P D vwCl (wM adM cI cJ cZ τ) H) (hS : va_S (fun q : Nat => s.heap.size ≤ q) s.heap H locs) (hl : lv_has ls 4 [(0, .ref b), (1, .ref (adC 0)), (2, .ref (adM 0)), (3, .int v3)]) : W p l e room_1 s m #[Value.ref b] below meth c H locs cells slots (lw_Z below #[Value.ref b] s) (F0 m 350 ls []) := by
  obtain ⟨hx, hb, hr, hml, hown, -, hX, hbl, hlk, -⟩ := id C0
  have hbA : ¬ (fun q : Nat => s.heap.size ≤ q) b := Nat.not_le.mpr hbl
  unfold p_L_350 at hf
  refine lv_aload_n hx hb dL_law_350 rfl (lv_at hl 1 rfl) ?_
  refine lv_aload_n hx hb dL_law_351 rfl (lv_at hl 0 rfl) ?_
  refine lv_iload_n hx hb dL_law_352 rfl (lv_at hl 3 rfl) ?_
  refine lv_iconst (v := 1) hx hb dL_law_353 (by decide) ?_
  refine lv_iadd hx hb dL_law_354 ?_
  obtain ⟨h_355, hf⟩ := oi_e hf
  refine va_sld hx hb hX hbl hbA hS h_355 dL_law_355 ?_
  refine lv_aload_n hx hb dL_law_356 rfl (lv_at hl 0 rfl) ?_
  refine lv_iload_n hx hb dL_law_357 rfl (lv_at hl 3 rfl) ?_
  refine lv_iconst (v := 2) hx hb dL_law_358 (by decide) ?_
  refine lv_iadd hx hb dL_law_359 ?_
  obtain ⟨h_360, hf⟩ := oi_e hf
  refine va_sld hx hb hX hbl hbA hS h_360 dL_law_360 ?_
  obtain ⟨r_361, hg_361, hf⟩ := oc_e hf
  refine mL_ri (wd := wC adC cI cJ cZ) (σ := σ) (As := [.int (xs (v3 + 1).toNatClampNeg), .int (xs (v3 + 2).toNatClampNeg)]) (rest := []) ⟨hx, hb, hml, hown, hts⟩ hK hC hM (hDC _) hAC (hCM _) hS (c_X7_under l D adC cI cJ cZ σ (xs (v3 + 1).toNatClampNeg) (xs (v3 + 2).toNatClampNeg) hg_361) (cwV 2 hts gL_law_X7_under rfl rfl rfl hd_X7_under ⟨Nat.le_of_ble_eq_true rfl, Nat.le_of_ble_eq_true rfl⟩) rfl (wC_0 _ _ _ _ _) rfl hl.1 rfl (Nat.le_of_ble_eq_true rfl) dL_law_361 hcs (fun H locs hC hM hS => ?_)
  refine lv_aload_n hx hb dL_law_364 rfl (lv_at hl 2 rfl) ?_
  refine lv_aload_n hx hb dL_law_365 rfl (lv_at hl 0 rfl) ?_
  refine lv_iload_n hx hb dL_law_366 rfl (lv_at hl 3 rfl) ?_
  refine lv_iconst (v := 1) hx hb dL_law_367 (by decide) ?_
  refine lv_iadd hx hb dL_law_368 ?_
  obtain ⟨h_369, hf⟩ := oi_e hf
  refine va_sld hx hb hX hbl hbA hS h_369 dL_law_369 ?_
  refine lv_aload_n hx hb dL_law_370 rfl (lv_at hl 0 rfl) ?_
  refine lv_iload_n hx hb dL_law_371 rfl (lv_at hl 3 rfl) ?_
  refine lv_iconst (v := 2) hx hb dL_law_372 (by decide) ?_
  refine lv_iadd hx hb dL_law_373 ?_
  obtain ⟨h_374, hf⟩ := oi_e hf
  refine va_sld hx hb hX hbl hbA hS h_374 dL_law_374 ?_
  obtain ⟨r_375, hg_375, hf⟩ := oc_e hf
  refine mL_wi (wd := wM adM cI cJ cZ) (σ := τ) (As := [.int (xs (v3 + 1).toNatClampNeg), .int (xs (v3 + 2).toNatClampNeg)]) (rest := [.int r_361]) ⟨hx, hb, hml, hown, hts⟩ hK hM hC (hDM _) hAM (hMC _) hS (c_X8_under l D adM cI cJ cZ τ (xs (v3 + 1).toNatClampNeg) (xs (v3 + 2).toNatClampNeg) hg_375) (cwV 2 hts gL_law_X8_under rfl rfl rfl hd_X8_under ⟨Nat.le_of_ble_eq_true rfl, Nat.le_of_ble_eq_true rfl⟩) rfl (wM_0 _ _ _ _ _) rfl hl.1 rfl (Nat.le_of_ble_eq_true rfl) dL_law_375 hcs (fun H locs hM hC hS => ?_)
  refine lv_icmp_eq (tgt := 793) hx hb dL_law_378 (by decide) (fun c_378 => ?_) (fun c_378 => ?_)
  · rw [if_pos c_378] at hf
    exact w_L_793 C0 hts hcs hK hDC hDM hAC hAM hCM hMC k18 hk18 v3 σ r_375.2 hf _ _ _ hC hM hS (lv_sub hl [0, 1, 2, 3] rfl)
  · rw [if_neg c_378] at hf
    refine lv_iconst (v := 0) hx hb dL_law_381 (by decide) ?_
    exact absurd (Option.some.inj hf) (by decide)
def p_L_383 (xs : Nat → Int32) (L : Nat) (k18 : Int32 → SS → SS → Option Int32) (v3 : Int32) (σ τ : SS) : Option Int32 := oi (v3 + 1) L (oi (v3 + 2) L (oc (p_X7_found_0 σ (xs (v3 + 1).toNatClampNeg) (xs (v3 + 2).toNatClampNeg)) (fun r_394 => oi (v3 + 1) L (oi (v3 + 2) L (oc (p_X8_found_0 (xs (v3 + 1).toNatClampNeg) (xs (v3 + 2).toNatClampNeg) τ) (fun r_408 => if r_394 = r_408.1 then p_L_793 xs L k18 v3 σ r_408.2 else some 0))))))
set_option maxHeartbeats 4000000 in
set_option maxRecDepth 100000 in
theorem w_L_383 {p : Program} {l : Launch} {e : Env} {s : State} {m : MethodId} {below : List Frame} {meth : Method} {c : Code} {cells slots : Nat} {D : va_G} {adC adM : Nat → Nat} {cI cJ cZ : ClassId} {b L : Nat} {xs : Nat → Int32} (C0 : lw_At p s m meth c b L xs) (hts : ∀ w ∈ wsL_law, w.before #[Value.ref b] s = true) (hcs : cells ≤ room_1.cells ∧ slots ≤ room_1.slots) (hK : va_K D vwCl (tyw cI cJ cZ) s) (hDC : ∀ σ, va_D (aC adC) (wC adC cI cJ cZ σ)) (hDM : ∀ σ, va_D (aM adM) (wM adM cI cJ cZ σ)) (hAC : ∀ q, aC adC q → s.heap.size ≤ q) (hAM : ∀ q, aM adM q → s.heap.size ≤ q) (hCM : ∀ (τ : SS) (k : Nat) (x : Nat × va_E), (wM adM cI cJ cZ τ)[k]? = some x → ¬ aC adC x.1) (hMC : ∀ (σ : SS) (k : Nat) (x : Nat × va_E), (wC adC cI cJ cZ σ)[k]? = some x → ¬ aM adM x.1) (k18 : Int32 → SS → SS → Option Int32) (hk18 : ∀ (v3 : Int32) (σ τ : SS), k18 v3 σ τ = some 1 → ∀ (H : Heap) (locs : List Loc) (ls : Array Slot), va_P D vwCl (wC adC cI cJ cZ σ) H → va_P D vwCl (wM adM cI cJ cZ τ) H → va_S (fun q : Nat => s.heap.size ≤ q) s.heap H locs → lv_has ls 4 [(0, .ref b), (1, .ref (adC 0)), (2, .ref (adM 0)), (3, .int v3)] → W p l e room_1 s m #[Value.ref b] below meth c H locs cells slots (lw_Z below #[Value.ref b] s) (F0 m 18 ls [])) (v3 : Int32) (σ τ : SS) (hf : p_L_383 xs L k18 v3 σ τ = some 1) (H : Heap) (locs : List Loc) (ls : Array Slot) (hC : va_P D vwCl (wC adC cI cJ cZ σ) H) (hM : va_P D vwCl (wM adM cI cJ cZ τ) H) (hS : va_S (fun q : Nat => s.heap.size ≤ q) s.heap H locs) (hl : lv_has ls 4 [(0, .ref b), (1, .ref (adC 0)), (2, .ref (adM 0)), (3, .int v3)]) : W p l e room_1 s m #[Value.ref b] below meth c H locs cells slots (lw_Z below #[Value.ref b] s) (F0 m 383 ls []) := by
  obtain ⟨hx, hb, hr, hml, hown, -, hX, hbl, hlk, -⟩ := id C0
  have hbA : ¬ (fun q : Nat => s.heap.size ≤ q) b := Nat.not_le.mpr hbl
  unfold p_L_383 at hf
  refine lv_aload_n hx hb dL_law_383 rfl (lv_at hl 1 rfl) ?_
  refine lv_aload_n hx hb dL_law_384 rfl (lv_at hl 0 rfl) ?_
  refine lv_iload_n hx hb dL_law_385 rfl (lv_at hl 3 rfl) ?_
  refine lv_iconst (v := 1) hx hb dL_law_386 (by decide) ?_
  refine lv_iadd hx hb dL_law_387 ?_
  obtain ⟨h_388, hf⟩ := oi_e hf
  refine va_sld hx hb hX hbl hbA hS h_388 dL_law_388 ?_
  refine lv_aload_n hx hb dL_law_389 rfl (lv_at hl 0 rfl) ?_
  refine lv_iload_n hx hb dL_law_390 rfl (lv_at hl 3 rfl) ?_
  refine lv_iconst (v := 2) hx hb dL_law_391 (by decide) ?_
  refine lv_iadd hx hb dL_law_392 ?_
  obtain ⟨h_393, hf⟩ := oi_e hf
  refine va_sld hx hb hX hbl hbA hS h_393 dL_law_393 ?_
  obtain ⟨r_394, hg_394, hf⟩ := oc_e hf
  refine mL_ri (wd := wC adC cI cJ cZ) (σ := σ) (As := [.int (xs (v3 + 1).toNatClampNeg), .int (xs (v3 + 2).toNatClampNeg)]) (rest := []) ⟨hx, hb, hml, hown, hts⟩ hK hC hM (hDC _) hAC (hCM _) hS (c_X7_found l D adC cI cJ cZ σ (xs (v3 + 1).toNatClampNeg) (xs (v3 + 2).toNatClampNeg) hg_394) (cwV 2 hts gL_law_X7_found rfl rfl rfl hd_X7_found ⟨Nat.le_of_ble_eq_true rfl, Nat.le_of_ble_eq_true rfl⟩) rfl (wC_0 _ _ _ _ _) rfl hl.1 rfl (Nat.le_of_ble_eq_true rfl) dL_law_394 hcs (fun H locs hC hM hS => ?_)
  refine lv_aload_n hx hb dL_law_397 rfl (lv_at hl 2 rfl) ?_
  refine lv_aload_n hx hb dL_law_398 rfl (lv_at hl 0 rfl) ?_
  refine lv_iload_n hx hb dL_law_399 rfl (lv_at hl 3 rfl) ?_
  refine lv_iconst (v := 1) hx hb dL_law_400 (by decide) ?_
  refine lv_iadd hx hb dL_law_401 ?_
  obtain ⟨h_402, hf⟩ := oi_e hf
  refine va_sld hx hb hX hbl hbA hS h_402 dL_law_402 ?_
  refine lv_aload_n hx hb dL_law_403 rfl (lv_at hl 0 rfl) ?_
  refine lv_iload_n hx hb dL_law_404 rfl (lv_at hl 3 rfl) ?_
  refine lv_iconst (v := 2) hx hb dL_law_405 (by decide) ?_
  refine lv_iadd hx hb dL_law_406 ?_
  obtain ⟨h_407, hf⟩ := oi_e hf
  refine va_sld hx hb hX hbl hbA hS h_407 dL_law_407 ?_
  obtain ⟨r_408, hg_408, hf⟩ := oc_e hf
  refine mL_wi (wd := wM adM cI cJ cZ) (σ := τ) (As := [.int (xs (v3 + 1).toNatClampNeg), .int (xs (v3 + 2).toNatClampNeg)]) (rest := [.int r_394]) ⟨hx, hb, hml, hown, hts⟩ hK hM hC (hDM _) hAM (hMC _) hS (c_X8_found l D adM cI cJ cZ τ (xs (v3 + 1).toNatClampNeg) (xs (v3 + 2).toNatClampNeg) hg_408) (cwV 2 hts gL_law_X8_found rfl rfl rfl hd_X8_found ⟨Nat.le_of_ble_eq_true rfl, Nat.le_of_ble_eq_true rfl⟩) rfl (wM_0 _ _ _ _ _) rfl hl.1 rfl (Nat.le_of_ble_eq_true rfl) dL_law_408 hcs (fun H locs hM hC hS => ?_)
  refine lv_icmp_eq (tgt := 793) hx hb dL_law_411 (by decide) (fun c_411 => ?_) (fun c_411 => ?_)
  · rw [if_pos c_411] at hf
    exact w_L_793 C0 hts hcs hK hDC hDM hAC hAM hCM hMC k18 hk18 v3 σ r_408.2 hf _ _ _ hC hM hS (lv_sub hl [0, 1, 2, 3] rfl)
  · rw [if_neg c_411] at hf
    refine lv_iconst (v := 0) hx hb dL_law_414 (by decide) ?_
    exact absurd (Option.some.inj hf) (by decide)
def p_L_416 (xs : Nat → Int32) (L : Nat) (k18 : Int32 → SS → SS → Option Int32) (v3 : Int32) (σ τ : SS) : Option Int32 := oi (v3 + 1) L (oi (v3 + 2) L (oi (v3 + 3) L (oc (p_X7_chosen_0 σ (xs (v3 + 1).toNatClampNeg) (xs (v3 + 2).toNatClampNeg) (xs (v3 + 3).toNatClampNeg)) (fun r_432 => oi (v3 + 1) L (oi (v3 + 2) L (oi (v3 + 3) L (oc (p_X8_chosen_0 (xs (v3 + 1).toNatClampNeg) (xs (v3 + 2).toNatClampNeg) (xs (v3 + 3).toNatClampNeg) τ) (fun r_451 => if r_432 = r_451.1 then p_L_793 xs L k18 v3 σ r_451.2 else some 0))))))))
set_option maxHeartbeats 4000000 in
set_option maxRecDepth 100000 in
theorem w_L_416 {p : Program} {l : Launch} {e : Env} {s : State} {m : MethodId} {below : List Frame} {meth : Method} {c : Code} {cells slots : Nat} {D : va_G} {adC adM : Nat → Nat} {cI cJ cZ : ClassId} {b L : Nat} {xs : Nat → Int32} (C0 : lw_At p s m meth c b L xs) (hts : ∀ w ∈ wsL_law, w.before #[Value.ref b] s = true) (hcs : cells ≤ room_1.cells ∧ slots ≤ room_1.slots) (hK : va_K D vwCl (tyw cI cJ cZ) s) (hDC : ∀ σ, va_D (aC adC) (wC adC cI cJ cZ σ)) (hDM : ∀ σ, va_D (aM adM) (wM adM cI cJ cZ σ)) (hAC : ∀ q, aC adC q → s.heap.size ≤ q) (hAM : ∀ q, aM adM q → s.heap.size ≤ q) (hCM : ∀ (τ : SS) (k : Nat) (x : Nat × va_E), (wM adM cI cJ cZ τ)[k]? = some x → ¬ aC adC x.1) (hMC : ∀ (σ : SS) (k : Nat) (x : Nat × va_E), (wC adC cI cJ cZ σ)[k]? = some x → ¬ aM adM x.1) (k18 : Int32 → SS → SS → Option Int32) (hk18 : ∀ (v3 : Int32) (σ τ : SS), k18 v3 σ τ = some 1 → ∀ (H : Heap) (locs : List Loc) (ls : Array Slot), va_P D vwCl (wC adC cI cJ cZ σ) H → va_P D vwCl (wM adM cI cJ cZ τ) H → va_S (fun q : Nat => s.heap.size ≤ q) s.heap H locs → lv_has ls 4 [(0, .ref b), (1, .ref (adC 0)), (2, .ref (adM 0)), (3, .int v3)] → W p l e room_1 s m #[Value.ref b] below meth c H locs cells slots (lw_Z below #[Value.ref b] s) (F0 m 18 ls [])) (v3 : Int32) (σ τ : SS) (hf : p_L_416 xs L k18 v3 σ τ = some 1) (H : Heap) (locs : List Loc) (ls : Array Slot) (hC : va_P D vwCl (wC adC cI cJ cZ σ) H) (hM : va_P D vwCl (wM adM cI cJ cZ τ) H) (hS : va_S (fun q : Nat => s.heap.size ≤ q) s.heap H locs) (hl : lv_has ls 4 [(0, .ref b), (1, .ref (adC 0)), (2, .ref (adM 0)), (3, .int v3)]) : W p l e room_1 s m #[Value.ref b] below meth c H locs cells slots (lw_Z below #[Value.ref b] s) (F0 m 416 ls []) := by
  obtain ⟨hx, hb, hr, hml, hown, -, hX, hbl, hlk, -⟩ := id C0
  have hbA : ¬ (fun q : Nat => s.heap.size ≤ q) b := Nat.not_le.mpr hbl
  unfold p_L_416 at hf
  refine lv_aload_n hx hb dL_law_416 rfl (lv_at hl 1 rfl) ?_
  refine lv_aload_n hx hb dL_law_417 rfl (lv_at hl 0 rfl) ?_
  refine lv_iload_n hx hb dL_law_418 rfl (lv_at hl 3 rfl) ?_
  refine lv_iconst (v := 1) hx hb dL_law_419 (by decide) ?_
  refine lv_iadd hx hb dL_law_420 ?_
  obtain ⟨h_421, hf⟩ := oi_e hf
  refine va_sld hx hb hX hbl hbA hS h_421 dL_law_421 ?_
  refine lv_aload_n hx hb dL_law_422 rfl (lv_at hl 0 rfl) ?_
  refine lv_iload_n hx hb dL_law_423 rfl (lv_at hl 3 rfl) ?_
  refine lv_iconst (v := 2) hx hb dL_law_424 (by decide) ?_
  refine lv_iadd hx hb dL_law_425 ?_
  obtain ⟨h_426, hf⟩ := oi_e hf
  refine va_sld hx hb hX hbl hbA hS h_426 dL_law_426 ?_
  refine lv_aload_n hx hb dL_law_427 rfl (lv_at hl 0 rfl) ?_
  refine lv_iload_n hx hb dL_law_428 rfl (lv_at hl 3 rfl) ?_
  refine lv_iconst (v := 3) hx hb dL_law_429 (by decide) ?_
  refine lv_iadd hx hb dL_law_430 ?_
  obtain ⟨h_431, hf⟩ := oi_e hf
  refine va_sld hx hb hX hbl hbA hS h_431 dL_law_431 ?_
  obtain ⟨r_432, hg_432, hf⟩ := oc_e hf
  refine mL_ri (wd := wC adC cI cJ cZ) (σ := σ) (As := [.int (xs (v3 + 1).toNatClampNeg), .int (xs (v3 + 2).toNatClampNeg), .int (xs (v3 + 3).toNatClampNeg)]) (rest := []) ⟨hx, hb, hml, hown, hts⟩ hK hC hM (hDC _) hAC (hCM _) hS (c_X7_chosen l D adC cI cJ cZ σ (xs (v3 + 1).toNatClampNeg) (xs (v3 + 2).toNatClampNeg) (xs (v3 + 3).toNatClampNeg) hg_432) (cwV 3 hts gL_law_X7_chosen rfl rfl rfl hd_X7_chosen ⟨Nat.le_of_ble_eq_true rfl, Nat.le_of_ble_eq_true rfl⟩) rfl (wC_0 _ _ _ _ _) rfl hl.1 rfl (Nat.le_of_ble_eq_true rfl) dL_law_432 hcs (fun H locs hC hM hS => ?_)
  refine lv_aload_n hx hb dL_law_435 rfl (lv_at hl 2 rfl) ?_
  refine lv_aload_n hx hb dL_law_436 rfl (lv_at hl 0 rfl) ?_
  refine lv_iload_n hx hb dL_law_437 rfl (lv_at hl 3 rfl) ?_
  refine lv_iconst (v := 1) hx hb dL_law_438 (by decide) ?_
  refine lv_iadd hx hb dL_law_439 ?_
  obtain ⟨h_440, hf⟩ := oi_e hf
  refine va_sld hx hb hX hbl hbA hS h_440 dL_law_440 ?_
  refine lv_aload_n hx hb dL_law_441 rfl (lv_at hl 0 rfl) ?_
  refine lv_iload_n hx hb dL_law_442 rfl (lv_at hl 3 rfl) ?_
  refine lv_iconst (v := 2) hx hb dL_law_443 (by decide) ?_
  refine lv_iadd hx hb dL_law_444 ?_
  obtain ⟨h_445, hf⟩ := oi_e hf
  refine va_sld hx hb hX hbl hbA hS h_445 dL_law_445 ?_
  refine lv_aload_n hx hb dL_law_446 rfl (lv_at hl 0 rfl) ?_
  refine lv_iload_n hx hb dL_law_447 rfl (lv_at hl 3 rfl) ?_
  refine lv_iconst (v := 3) hx hb dL_law_448 (by decide) ?_
  refine lv_iadd hx hb dL_law_449 ?_
  obtain ⟨h_450, hf⟩ := oi_e hf
  refine va_sld hx hb hX hbl hbA hS h_450 dL_law_450 ?_
  obtain ⟨r_451, hg_451, hf⟩ := oc_e hf
  refine mL_wi (wd := wM adM cI cJ cZ) (σ := τ) (As := [.int (xs (v3 + 1).toNatClampNeg), .int (xs (v3 + 2).toNatClampNeg), .int (xs (v3 + 3).toNatClampNeg)]) (rest := [.int r_432]) ⟨hx, hb, hml, hown, hts⟩ hK hM hC (hDM _) hAM (hMC _) hS (c_X8_chosen l D adM cI cJ cZ τ (xs (v3 + 1).toNatClampNeg) (xs (v3 + 2).toNatClampNeg) (xs (v3 + 3).toNatClampNeg) hg_451) (cwV 3 hts gL_law_X8_chosen rfl rfl rfl hd_X8_chosen ⟨Nat.le_of_ble_eq_true rfl, Nat.le_of_ble_eq_true rfl⟩) rfl (wM_0 _ _ _ _ _) rfl hl.1 rfl (Nat.le_of_ble_eq_true rfl) dL_law_451 hcs (fun H locs hM hC hS => ?_)
  refine lv_icmp_eq (tgt := 793) hx hb dL_law_454 (by decide) (fun c_454 => ?_) (fun c_454 => ?_)
  · rw [if_pos c_454] at hf
    exact w_L_793 C0 hts hcs hK hDC hDM hAC hAM hCM hMC k18 hk18 v3 σ r_451.2 hf _ _ _ hC hM hS (lv_sub hl [0, 1, 2, 3] rfl)
  · rw [if_neg c_454] at hf
    refine lv_iconst (v := 0) hx hb dL_law_457 (by decide) ?_
    exact absurd (Option.some.inj hf) (by decide)
def p_L_459 (xs : Nat → Int32) (L : Nat) (k18 : Int32 → SS → SS → Option Int32) (v3 : Int32) (σ τ : SS) : Option Int32 := oi (v3 + 1) L (oi (v3 + 2) L (oc (p_X7_about_0 (xs (v3 + 1).toNatClampNeg) (xs (v3 + 2).toNatClampNeg) σ) (fun r_470 => oi (v3 + 1) L (oi (v3 + 2) L (oc (p_X8_about_0 (xs (v3 + 1).toNatClampNeg) (xs (v3 + 2).toNatClampNeg) τ) (fun r_484 => if r_470.1 = r_484.1 then p_L_793 xs L k18 v3 r_470.2 r_484.2 else some 0))))))
set_option maxHeartbeats 4000000 in
set_option maxRecDepth 100000 in
theorem w_L_459 {p : Program} {l : Launch} {e : Env} {s : State} {m : MethodId} {below : List Frame} {meth : Method} {c : Code} {cells slots : Nat} {D : va_G} {adC adM : Nat → Nat} {cI cJ cZ : ClassId} {b L : Nat} {xs : Nat → Int32} (C0 : lw_At p s m meth c b L xs) (hts : ∀ w ∈ wsL_law, w.before #[Value.ref b] s = true) (hcs : cells ≤ room_1.cells ∧ slots ≤ room_1.slots) (hK : va_K D vwCl (tyw cI cJ cZ) s) (hDC : ∀ σ, va_D (aC adC) (wC adC cI cJ cZ σ)) (hDM : ∀ σ, va_D (aM adM) (wM adM cI cJ cZ σ)) (hAC : ∀ q, aC adC q → s.heap.size ≤ q) (hAM : ∀ q, aM adM q → s.heap.size ≤ q) (hCM : ∀ (τ : SS) (k : Nat) (x : Nat × va_E), (wM adM cI cJ cZ τ)[k]? = some x → ¬ aC adC x.1) (hMC : ∀ (σ : SS) (k : Nat) (x : Nat × va_E), (wC adC cI cJ cZ σ)[k]? = some x → ¬ aM adM x.1) (k18 : Int32 → SS → SS → Option Int32) (hk18 : ∀ (v3 : Int32) (σ τ : SS), k18 v3 σ τ = some 1 → ∀ (H : Heap) (locs : List Loc) (ls : Array Slot), va_P D vwCl (wC adC cI cJ cZ σ) H → va_P D vwCl (wM adM cI cJ cZ τ) H → va_S (fun q : Nat => s.heap.size ≤ q) s.heap H locs → lv_has ls 4 [(0, .ref b), (1, .ref (adC 0)), (2, .ref (adM 0)), (3, .int v3)] → W p l e room_1 s m #[Value.ref b] below meth c H locs cells slots (lw_Z below #[Value.ref b] s) (F0 m 18 ls [])) (v3 : Int32) (σ τ : SS) (hf : p_L_459 xs L k18 v3 σ τ = some 1) (H : Heap) (locs : List Loc) (ls : Array Slot) (hC : va_P D vwCl (wC adC cI cJ cZ σ) H) (hM : va_P D vwCl (wM adM cI cJ cZ τ) H) (hS : va_S (fun q : Nat => s.heap.size ≤ q) s.heap H locs) (hl : lv_has ls 4 [(0, .ref b), (1, .ref (adC 0)), (2, .ref (adM 0)), (3, .int v3)]) : W p l e room_1 s m #[Value.ref b] below meth c H locs cells slots (lw_Z below #[Value.ref b] s) (F0 m 459 ls []) := by
  obtain ⟨hx, hb, hr, hml, hown, -, hX, hbl, hlk, -⟩ := id C0
  have hbA : ¬ (fun q : Nat => s.heap.size ≤ q) b := Nat.not_le.mpr hbl
  unfold p_L_459 at hf
  refine lv_aload_n hx hb dL_law_459 rfl (lv_at hl 1 rfl) ?_
  refine lv_aload_n hx hb dL_law_460 rfl (lv_at hl 0 rfl) ?_
  refine lv_iload_n hx hb dL_law_461 rfl (lv_at hl 3 rfl) ?_
  refine lv_iconst (v := 1) hx hb dL_law_462 (by decide) ?_
  refine lv_iadd hx hb dL_law_463 ?_
  obtain ⟨h_464, hf⟩ := oi_e hf
  refine va_sld hx hb hX hbl hbA hS h_464 dL_law_464 ?_
  refine lv_aload_n hx hb dL_law_465 rfl (lv_at hl 0 rfl) ?_
  refine lv_iload_n hx hb dL_law_466 rfl (lv_at hl 3 rfl) ?_
  refine lv_iconst (v := 2) hx hb dL_law_467 (by decide) ?_
  refine lv_iadd hx hb dL_law_468 ?_
  obtain ⟨h_469, hf⟩ := oi_e hf
  refine va_sld hx hb hX hbl hbA hS h_469 dL_law_469 ?_
  obtain ⟨r_470, hg_470, hf⟩ := oc_e hf
  refine mL_wi (wd := wC adC cI cJ cZ) (σ := σ) (As := [.int (xs (v3 + 1).toNatClampNeg), .int (xs (v3 + 2).toNatClampNeg)]) (rest := []) ⟨hx, hb, hml, hown, hts⟩ hK hC hM (hDC _) hAC (hCM _) hS (c_X7_about l D adC cI cJ cZ σ (xs (v3 + 1).toNatClampNeg) (xs (v3 + 2).toNatClampNeg) hg_470) (cwV 2 hts gL_law_X7_about rfl rfl rfl hd_X7_about ⟨Nat.le_of_ble_eq_true rfl, Nat.le_of_ble_eq_true rfl⟩) rfl (wC_0 _ _ _ _ _) rfl hl.1 rfl (Nat.le_of_ble_eq_true rfl) dL_law_470 hcs (fun H locs hC hM hS => ?_)
  refine lv_aload_n hx hb dL_law_473 rfl (lv_at hl 2 rfl) ?_
  refine lv_aload_n hx hb dL_law_474 rfl (lv_at hl 0 rfl) ?_
  refine lv_iload_n hx hb dL_law_475 rfl (lv_at hl 3 rfl) ?_
  refine lv_iconst (v := 1) hx hb dL_law_476 (by decide) ?_
  refine lv_iadd hx hb dL_law_477 ?_
  obtain ⟨h_478, hf⟩ := oi_e hf
  refine va_sld hx hb hX hbl hbA hS h_478 dL_law_478 ?_
  refine lv_aload_n hx hb dL_law_479 rfl (lv_at hl 0 rfl) ?_
  refine lv_iload_n hx hb dL_law_480 rfl (lv_at hl 3 rfl) ?_
  refine lv_iconst (v := 2) hx hb dL_law_481 (by decide) ?_
  refine lv_iadd hx hb dL_law_482 ?_
  obtain ⟨h_483, hf⟩ := oi_e hf
  refine va_sld hx hb hX hbl hbA hS h_483 dL_law_483 ?_
  obtain ⟨r_484, hg_484, hf⟩ := oc_e hf
  refine mL_wi (wd := wM adM cI cJ cZ) (σ := τ) (As := [.int (xs (v3 + 1).toNatClampNeg), .int (xs (v3 + 2).toNatClampNeg)]) (rest := [.int r_470.1]) ⟨hx, hb, hml, hown, hts⟩ hK hM hC (hDM _) hAM (hMC _) hS (c_X8_about l D adM cI cJ cZ τ (xs (v3 + 1).toNatClampNeg) (xs (v3 + 2).toNatClampNeg) hg_484) (cwV 2 hts gL_law_X8_about rfl rfl rfl hd_X8_about ⟨Nat.le_of_ble_eq_true rfl, Nat.le_of_ble_eq_true rfl⟩) rfl (wM_0 _ _ _ _ _) rfl hl.1 rfl (Nat.le_of_ble_eq_true rfl) dL_law_484 hcs (fun H locs hM hC hS => ?_)
  refine lv_icmp_eq (tgt := 793) hx hb dL_law_487 (by decide) (fun c_487 => ?_) (fun c_487 => ?_)
  · rw [if_pos c_487] at hf
    exact w_L_793 C0 hts hcs hK hDC hDM hAC hAM hCM hMC k18 hk18 v3 r_470.2 r_484.2 hf _ _ _ hC hM hS (lv_sub hl [0, 1, 2, 3] rfl)
  · rw [if_neg c_487] at hf
    refine lv_iconst (v := 0) hx hb dL_law_490 (by decide) ?_
    exact absurd (Option.some.inj hf) (by decide)
def p_L_492 (xs : Nat → Int32) (L : Nat) (k18 : Int32 → SS → SS → Option Int32) (v3 : Int32) (σ τ : SS) : Option Int32 := oi (v3 + 1) L (oi (v3 + 2) L (oc (p_X7_made_0 (xs (v3 + 1).toNatClampNeg) (xs (v3 + 2).toNatClampNeg) σ) (fun r_503 => oi (v3 + 1) L (oi (v3 + 2) L (oc (p_X8_made_0 (xs (v3 + 1).toNatClampNeg) (xs (v3 + 2).toNatClampNeg) τ) (fun r_517 => if r_503.1 = r_517.1 then p_L_793 xs L k18 v3 r_503.2 r_517.2 else some 0))))))
set_option maxHeartbeats 4000000 in
set_option maxRecDepth 100000 in
theorem w_L_492 {p : Program} {l : Launch} {e : Env} {s : State} {m : MethodId} {below : List Frame} {meth : Method} {c : Code} {cells slots : Nat} {D : va_G} {adC adM : Nat → Nat} {cI cJ cZ : ClassId} {b L : Nat} {xs : Nat → Int32} (C0 : lw_At p s m meth c b L xs) (hts : ∀ w ∈ wsL_law, w.before #[Value.ref b] s = true) (hcs : cells ≤ room_1.cells ∧ slots ≤ room_1.slots) (hK : va_K D vwCl (tyw cI cJ cZ) s) (hDC : ∀ σ, va_D (aC adC) (wC adC cI cJ cZ σ)) (hDM : ∀ σ, va_D (aM adM) (wM adM cI cJ cZ σ)) (hAC : ∀ q, aC adC q → s.heap.size ≤ q) (hAM : ∀ q, aM adM q → s.heap.size ≤ q) (hCM : ∀ (τ : SS) (k : Nat) (x : Nat × va_E), (wM adM cI cJ cZ τ)[k]? = some x → ¬ aC adC x.1) (hMC : ∀ (σ : SS) (k : Nat) (x : Nat × va_E), (wC adC cI cJ cZ σ)[k]? = some x → ¬ aM adM x.1) (k18 : Int32 → SS → SS → Option Int32) (hk18 : ∀ (v3 : Int32) (σ τ : SS), k18 v3 σ τ = some 1 → ∀ (H : Heap) (locs : List Loc) (ls : Array Slot), va_P D vwCl (wC adC cI cJ cZ σ) H → va_P D vwCl (wM adM cI cJ cZ τ) H → va_S (fun q : Nat => s.heap.size ≤ q) s.heap H locs → lv_has ls 4 [(0, .ref b), (1, .ref (adC 0)), (2, .ref (adM 0)), (3, .int v3)] → W p l e room_1 s m #[Value.ref b] below meth c H locs cells slots (lw_Z below #[Value.ref b] s) (F0 m 18 ls [])) (v3 : Int32) (σ τ : SS) (hf : p_L_492 xs L k18 v3 σ τ = some 1) (H : Heap) (locs : List Loc) (ls : Array Slot) (hC : va_P D vwCl (wC adC cI cJ cZ σ) H) (hM : va_P D vwCl (wM adM cI cJ cZ τ) H) (hS : va_S (fun q : Nat => s.heap.size ≤ q) s.heap H locs) (hl : lv_has ls 4 [(0, .ref b), (1, .ref (adC 0)), (2, .ref (adM 0)), (3, .int v3)]) : W p l e room_1 s m #[Value.ref b] below meth c H locs cells slots (lw_Z below #[Value.ref b] s) (F0 m 492 ls []) := by
  obtain ⟨hx, hb, hr, hml, hown, -, hX, hbl, hlk, -⟩ := id C0
  have hbA : ¬ (fun q : Nat => s.heap.size ≤ q) b := Nat.not_le.mpr hbl
  unfold p_L_492 at hf
  refine lv_aload_n hx hb dL_law_492 rfl (lv_at hl 1 rfl) ?_
  refine lv_aload_n hx hb dL_law_493 rfl (lv_at hl 0 rfl) ?_
  refine lv_iload_n hx hb dL_law_494 rfl (lv_at hl 3 rfl) ?_
  refine lv_iconst (v := 1) hx hb dL_law_495 (by decide) ?_
  refine lv_iadd hx hb dL_law_496 ?_
  obtain ⟨h_497, hf⟩ := oi_e hf
  refine va_sld hx hb hX hbl hbA hS h_497 dL_law_497 ?_
  refine lv_aload_n hx hb dL_law_498 rfl (lv_at hl 0 rfl) ?_
  refine lv_iload_n hx hb dL_law_499 rfl (lv_at hl 3 rfl) ?_
  refine lv_iconst (v := 2) hx hb dL_law_500 (by decide) ?_
  refine lv_iadd hx hb dL_law_501 ?_
  obtain ⟨h_502, hf⟩ := oi_e hf
  refine va_sld hx hb hX hbl hbA hS h_502 dL_law_502 ?_
  obtain ⟨r_503, hg_503, hf⟩ := oc_e hf
  refine mL_wi (wd := wC adC cI cJ cZ) (σ := σ) (As := [.int (xs (v3 + 1).toNatClampNeg), .int (xs (v3 + 2).toNatClampNeg)]) (rest := []) ⟨hx, hb, hml, hown, hts⟩ hK hC hM (hDC _) hAC (hCM _) hS (c_X7_made l D adC cI cJ cZ σ (xs (v3 + 1).toNatClampNeg) (xs (v3 + 2).toNatClampNeg) hg_503) (cwV 2 hts gL_law_X7_made rfl rfl rfl hd_X7_made ⟨Nat.le_of_ble_eq_true rfl, Nat.le_of_ble_eq_true rfl⟩) rfl (wC_0 _ _ _ _ _) rfl hl.1 rfl (Nat.le_of_ble_eq_true rfl) dL_law_503 hcs (fun H locs hC hM hS => ?_)
  refine lv_aload_n hx hb dL_law_506 rfl (lv_at hl 2 rfl) ?_
  refine lv_aload_n hx hb dL_law_507 rfl (lv_at hl 0 rfl) ?_
  refine lv_iload_n hx hb dL_law_508 rfl (lv_at hl 3 rfl) ?_
  refine lv_iconst (v := 1) hx hb dL_law_509 (by decide) ?_
  refine lv_iadd hx hb dL_law_510 ?_
  obtain ⟨h_511, hf⟩ := oi_e hf
  refine va_sld hx hb hX hbl hbA hS h_511 dL_law_511 ?_
  refine lv_aload_n hx hb dL_law_512 rfl (lv_at hl 0 rfl) ?_
  refine lv_iload_n hx hb dL_law_513 rfl (lv_at hl 3 rfl) ?_
  refine lv_iconst (v := 2) hx hb dL_law_514 (by decide) ?_
  refine lv_iadd hx hb dL_law_515 ?_
  obtain ⟨h_516, hf⟩ := oi_e hf
  refine va_sld hx hb hX hbl hbA hS h_516 dL_law_516 ?_
  obtain ⟨r_517, hg_517, hf⟩ := oc_e hf
  refine mL_wi (wd := wM adM cI cJ cZ) (σ := τ) (As := [.int (xs (v3 + 1).toNatClampNeg), .int (xs (v3 + 2).toNatClampNeg)]) (rest := [.int r_503.1]) ⟨hx, hb, hml, hown, hts⟩ hK hM hC (hDM _) hAM (hMC _) hS (c_X8_made l D adM cI cJ cZ τ (xs (v3 + 1).toNatClampNeg) (xs (v3 + 2).toNatClampNeg) hg_517) (cwV 2 hts gL_law_X8_made rfl rfl rfl hd_X8_made ⟨Nat.le_of_ble_eq_true rfl, Nat.le_of_ble_eq_true rfl⟩) rfl (wM_0 _ _ _ _ _) rfl hl.1 rfl (Nat.le_of_ble_eq_true rfl) dL_law_517 hcs (fun H locs hM hC hS => ?_)
  refine lv_icmp_eq (tgt := 793) hx hb dL_law_520 (by decide) (fun c_520 => ?_) (fun c_520 => ?_)
  · rw [if_pos c_520] at hf
    exact w_L_793 C0 hts hcs hK hDC hDM hAC hAM hCM hMC k18 hk18 v3 r_503.2 r_517.2 hf _ _ _ hC hM hS (lv_sub hl [0, 1, 2, 3] rfl)
  · rw [if_neg c_520] at hf
    refine lv_iconst (v := 0) hx hb dL_law_523 (by decide) ?_
    exact absurd (Option.some.inj hf) (by decide)
def p_L_525 (xs : Nat → Int32) (L : Nat) (k18 : Int32 → SS → SS → Option Int32) (v3 : Int32) (σ τ : SS) : Option Int32 := oi (v3 + 1) L (oi (v3 + 2) L (oi (v3 + 3) L (oc (p_X7_callee_0 (xs (v3 + 1).toNatClampNeg) (xs (v3 + 2).toNatClampNeg) (xs (v3 + 3).toNatClampNeg) σ) (fun r_541 => oi (v3 + 1) L (oi (v3 + 2) L (oi (v3 + 3) L (oc (p_X8_callee_0 (xs (v3 + 1).toNatClampNeg) (xs (v3 + 2).toNatClampNeg) (xs (v3 + 3).toNatClampNeg) τ) (fun r_560 => if r_541.1 = r_560.1 then p_L_793 xs L k18 v3 r_541.2 r_560.2 else some 0))))))))
set_option maxHeartbeats 4000000 in
set_option maxRecDepth 100000 in
theorem w_L_525 {p : Program} {l : Launch} {e : Env} {s : State} {m : MethodId} {below : List Frame} {meth : Method} {c : Code} {cells slots : Nat} {D : va_G} {adC adM : Nat → Nat} {cI cJ cZ : ClassId} {b L : Nat} {xs : Nat → Int32} (C0 : lw_At p s m meth c b L xs) (hts : ∀ w ∈ wsL_law, w.before #[Value.ref b] s = true) (hcs : cells ≤ room_1.cells ∧ slots ≤ room_1.slots) (hK : va_K D vwCl (tyw cI cJ cZ) s) (hDC : ∀ σ, va_D (aC adC) (wC adC cI cJ cZ σ)) (hDM : ∀ σ, va_D (aM adM) (wM adM cI cJ cZ σ)) (hAC : ∀ q, aC adC q → s.heap.size ≤ q) (hAM : ∀ q, aM adM q → s.heap.size ≤ q) (hCM : ∀ (τ : SS) (k : Nat) (x : Nat × va_E), (wM adM cI cJ cZ τ)[k]? = some x → ¬ aC adC x.1) (hMC : ∀ (σ : SS) (k : Nat) (x : Nat × va_E), (wC adC cI cJ cZ σ)[k]? = some x → ¬ aM adM x.1) (k18 : Int32 → SS → SS → Option Int32) (hk18 : ∀ (v3 : Int32) (σ τ : SS), k18 v3 σ τ = some 1 → ∀ (H : Heap) (locs : List Loc) (ls : Array Slot), va_P D vwCl (wC adC cI cJ cZ σ) H → va_P D vwCl (wM adM cI cJ cZ τ) H → va_S (fun q : Nat => s.heap.size ≤ q) s.heap H locs → lv_has ls 4 [(0, .ref b), (1, .ref (adC 0)), (2, .ref (adM 0)), (3, .int v3)] → W p l e room_1 s m #[Value.ref b] below meth c H locs cells slots (lw_Z below #[Value.ref b] s) (F0 m 18 ls [])) (v3 : Int32) (σ τ : SS) (hf : p_L_525 xs L k18 v3 σ τ = some 1) (H : Heap) (locs : List Loc) (ls : Array Slot) (hC : va_P D vwCl (wC adC cI cJ cZ σ) H) (hM : va_P D vwCl (wM adM cI cJ cZ τ) H) (hS : va_S (fun q : Nat => s.heap.size ≤ q) s.heap H locs) (hl : lv_has ls 4 [(0, .ref b), (1, .ref (adC 0)), (2, .ref (adM 0)), (3, .int v3)]) : W p l e room_1 s m #[Value.ref b] below meth c H locs cells slots (lw_Z below #[Value.ref b] s) (F0 m 525 ls []) := by
  obtain ⟨hx, hb, hr, hml, hown, -, hX, hbl, hlk, -⟩ := id C0
  have hbA : ¬ (fun q : Nat => s.heap.size ≤ q) b := Nat.not_le.mpr hbl
  unfold p_L_525 at hf
  refine lv_aload_n hx hb dL_law_525 rfl (lv_at hl 1 rfl) ?_
  refine lv_aload_n hx hb dL_law_526 rfl (lv_at hl 0 rfl) ?_
  refine lv_iload_n hx hb dL_law_527 rfl (lv_at hl 3 rfl) ?_
  refine lv_iconst (v := 1) hx hb dL_law_528 (by decide) ?_
  refine lv_iadd hx hb dL_law_529 ?_
  obtain ⟨h_530, hf⟩ := oi_e hf
  refine va_sld hx hb hX hbl hbA hS h_530 dL_law_530 ?_
  refine lv_aload_n hx hb dL_law_531 rfl (lv_at hl 0 rfl) ?_
  refine lv_iload_n hx hb dL_law_532 rfl (lv_at hl 3 rfl) ?_
  refine lv_iconst (v := 2) hx hb dL_law_533 (by decide) ?_
  refine lv_iadd hx hb dL_law_534 ?_
  obtain ⟨h_535, hf⟩ := oi_e hf
  refine va_sld hx hb hX hbl hbA hS h_535 dL_law_535 ?_
  refine lv_aload_n hx hb dL_law_536 rfl (lv_at hl 0 rfl) ?_
  refine lv_iload_n hx hb dL_law_537 rfl (lv_at hl 3 rfl) ?_
  refine lv_iconst (v := 3) hx hb dL_law_538 (by decide) ?_
  refine lv_iadd hx hb dL_law_539 ?_
  obtain ⟨h_540, hf⟩ := oi_e hf
  refine va_sld hx hb hX hbl hbA hS h_540 dL_law_540 ?_
  obtain ⟨r_541, hg_541, hf⟩ := oc_e hf
  refine mL_wi (wd := wC adC cI cJ cZ) (σ := σ) (As := [.int (xs (v3 + 1).toNatClampNeg), .int (xs (v3 + 2).toNatClampNeg), .int (xs (v3 + 3).toNatClampNeg)]) (rest := []) ⟨hx, hb, hml, hown, hts⟩ hK hC hM (hDC _) hAC (hCM _) hS (c_X7_callee l D adC cI cJ cZ σ (xs (v3 + 1).toNatClampNeg) (xs (v3 + 2).toNatClampNeg) (xs (v3 + 3).toNatClampNeg) hg_541) (cwV 3 hts gL_law_X7_callee rfl rfl rfl hd_X7_callee ⟨Nat.le_of_ble_eq_true rfl, Nat.le_of_ble_eq_true rfl⟩) rfl (wC_0 _ _ _ _ _) rfl hl.1 rfl (Nat.le_of_ble_eq_true rfl) dL_law_541 hcs (fun H locs hC hM hS => ?_)
  refine lv_aload_n hx hb dL_law_544 rfl (lv_at hl 2 rfl) ?_
  refine lv_aload_n hx hb dL_law_545 rfl (lv_at hl 0 rfl) ?_
  refine lv_iload_n hx hb dL_law_546 rfl (lv_at hl 3 rfl) ?_
  refine lv_iconst (v := 1) hx hb dL_law_547 (by decide) ?_
  refine lv_iadd hx hb dL_law_548 ?_
  obtain ⟨h_549, hf⟩ := oi_e hf
  refine va_sld hx hb hX hbl hbA hS h_549 dL_law_549 ?_
  refine lv_aload_n hx hb dL_law_550 rfl (lv_at hl 0 rfl) ?_
  refine lv_iload_n hx hb dL_law_551 rfl (lv_at hl 3 rfl) ?_
  refine lv_iconst (v := 2) hx hb dL_law_552 (by decide) ?_
  refine lv_iadd hx hb dL_law_553 ?_
  obtain ⟨h_554, hf⟩ := oi_e hf
  refine va_sld hx hb hX hbl hbA hS h_554 dL_law_554 ?_
  refine lv_aload_n hx hb dL_law_555 rfl (lv_at hl 0 rfl) ?_
  refine lv_iload_n hx hb dL_law_556 rfl (lv_at hl 3 rfl) ?_
  refine lv_iconst (v := 3) hx hb dL_law_557 (by decide) ?_
  refine lv_iadd hx hb dL_law_558 ?_
  obtain ⟨h_559, hf⟩ := oi_e hf
  refine va_sld hx hb hX hbl hbA hS h_559 dL_law_559 ?_
  obtain ⟨r_560, hg_560, hf⟩ := oc_e hf
  refine mL_wi (wd := wM adM cI cJ cZ) (σ := τ) (As := [.int (xs (v3 + 1).toNatClampNeg), .int (xs (v3 + 2).toNatClampNeg), .int (xs (v3 + 3).toNatClampNeg)]) (rest := [.int r_541.1]) ⟨hx, hb, hml, hown, hts⟩ hK hM hC (hDM _) hAM (hMC _) hS (c_X8_callee l D adM cI cJ cZ τ (xs (v3 + 1).toNatClampNeg) (xs (v3 + 2).toNatClampNeg) (xs (v3 + 3).toNatClampNeg) hg_560) (cwV 3 hts gL_law_X8_callee rfl rfl rfl hd_X8_callee ⟨Nat.le_of_ble_eq_true rfl, Nat.le_of_ble_eq_true rfl⟩) rfl (wM_0 _ _ _ _ _) rfl hl.1 rfl (Nat.le_of_ble_eq_true rfl) dL_law_560 hcs (fun H locs hM hC hS => ?_)
  refine lv_icmp_eq (tgt := 793) hx hb dL_law_563 (by decide) (fun c_563 => ?_) (fun c_563 => ?_)
  · rw [if_pos c_563] at hf
    exact w_L_793 C0 hts hcs hK hDC hDM hAC hAM hCM hMC k18 hk18 v3 r_541.2 r_560.2 hf _ _ _ hC hM hS (lv_sub hl [0, 1, 2, 3] rfl)
  · rw [if_neg c_563] at hf
    refine lv_iconst (v := 0) hx hb dL_law_566 (by decide) ?_
    exact absurd (Option.some.inj hf) (by decide)
def p_L_568 (xs : Nat → Int32) (L : Nat) (k18 : Int32 → SS → SS → Option Int32) (v3 : Int32) (σ τ : SS) : Option Int32 := oi (v3 + 1) L (oi (v3 + 2) L (oi (v3 + 3) L (oc (p_X7_faults_0 (xs (v3 + 1).toNatClampNeg) (xs (v3 + 2).toNatClampNeg) (xs (v3 + 3).toNatClampNeg) σ) (fun r_584 => oi (v3 + 1) L (oi (v3 + 2) L (oi (v3 + 3) L (oc (p_X8_faults_0 (xs (v3 + 1).toNatClampNeg) (xs (v3 + 2).toNatClampNeg) (xs (v3 + 3).toNatClampNeg) τ) (fun r_603 => if r_584.1 = r_603.1 then p_L_793 xs L k18 v3 r_584.2 r_603.2 else some 0))))))))
set_option maxHeartbeats 4000000 in
set_option maxRecDepth 100000 in
theorem w_L_568 {p : Program} {l : Launch} {e : Env} {s : State} {m : MethodId} {below : List Frame} {meth : Method} {c : Code} {cells slots : Nat} {D : va_G} {adC adM : Nat → Nat} {cI cJ cZ : ClassId} {b L : Nat} {xs : Nat → Int32} (C0 : lw_At p s m meth c b L xs) (hts : ∀ w ∈ wsL_law, w.before #[Value.ref b] s = true) (hcs : cells ≤ room_1.cells ∧ slots ≤ room_1.slots) (hK : va_K D vwCl (tyw cI cJ cZ) s) (hDC : ∀ σ, va_D (aC adC) (wC adC cI cJ cZ σ)) (hDM : ∀ σ, va_D (aM adM) (wM adM cI cJ cZ σ)) (hAC : ∀ q, aC adC q → s.heap.size ≤ q) (hAM : ∀ q, aM adM q → s.heap.size ≤ q) (hCM : ∀ (τ : SS) (k : Nat) (x : Nat × va_E), (wM adM cI cJ cZ τ)[k]? = some x → ¬ aC adC x.1) (hMC : ∀ (σ : SS) (k : Nat) (x : Nat × va_E), (wC adC cI cJ cZ σ)[k]? = some x → ¬ aM adM x.1) (k18 : Int32 → SS → SS → Option Int32) (hk18 : ∀ (v3 : Int32) (σ τ : SS), k18 v3 σ τ = some 1 → ∀ (H : Heap) (locs : List Loc) (ls : Array Slot), va_P D vwCl (wC adC cI cJ cZ σ) H → va_P D vwCl (wM adM cI cJ cZ τ) H → va_S (fun q : Nat => s.heap.size ≤ q) s.heap H locs → lv_has ls 4 [(0, .ref b), (1, .ref (adC 0)), (2, .ref (adM 0)), (3, .int v3)] → W p l e room_1 s m #[Value.ref b] below meth c H locs cells slots (lw_Z below #[Value.ref b] s) (F0 m 18 ls [])) (v3 : Int32) (σ τ : SS) (hf : p_L_568 xs L k18 v3 σ τ = some 1) (H : Heap) (locs : List Loc) (ls : Array Slot) (hC : va_P D vwCl (wC adC cI cJ cZ σ) H) (hM : va_P D vwCl (wM adM cI cJ cZ τ) H) (hS : va_S (fun q : Nat => s.heap.size ≤ q) s.heap H locs) (hl : lv_has ls 4 [(0, .ref b), (1, .ref (adC 0)), (2, .ref (adM 0)), (3, .int v3)]) : W p l e room_1 s m #[Value.ref b] below meth c H locs cells slots (lw_Z below #[Value.ref b] s) (F0 m 568 ls []) := by
  obtain ⟨hx, hb, hr, hml, hown, -, hX, hbl, hlk, -⟩ := id C0
  have hbA : ¬ (fun q : Nat => s.heap.size ≤ q) b := Nat.not_le.mpr hbl
  unfold p_L_568 at hf
  refine lv_aload_n hx hb dL_law_568 rfl (lv_at hl 1 rfl) ?_
  refine lv_aload_n hx hb dL_law_569 rfl (lv_at hl 0 rfl) ?_
  refine lv_iload_n hx hb dL_law_570 rfl (lv_at hl 3 rfl) ?_
  refine lv_iconst (v := 1) hx hb dL_law_571 (by decide) ?_
  refine lv_iadd hx hb dL_law_572 ?_
  obtain ⟨h_573, hf⟩ := oi_e hf
  refine va_sld hx hb hX hbl hbA hS h_573 dL_law_573 ?_
  refine lv_aload_n hx hb dL_law_574 rfl (lv_at hl 0 rfl) ?_
  refine lv_iload_n hx hb dL_law_575 rfl (lv_at hl 3 rfl) ?_
  refine lv_iconst (v := 2) hx hb dL_law_576 (by decide) ?_
  refine lv_iadd hx hb dL_law_577 ?_
  obtain ⟨h_578, hf⟩ := oi_e hf
  refine va_sld hx hb hX hbl hbA hS h_578 dL_law_578 ?_
  refine lv_aload_n hx hb dL_law_579 rfl (lv_at hl 0 rfl) ?_
  refine lv_iload_n hx hb dL_law_580 rfl (lv_at hl 3 rfl) ?_
  refine lv_iconst (v := 3) hx hb dL_law_581 (by decide) ?_
  refine lv_iadd hx hb dL_law_582 ?_
  obtain ⟨h_583, hf⟩ := oi_e hf
  refine va_sld hx hb hX hbl hbA hS h_583 dL_law_583 ?_
  obtain ⟨r_584, hg_584, hf⟩ := oc_e hf
  refine mL_wi (wd := wC adC cI cJ cZ) (σ := σ) (As := [.int (xs (v3 + 1).toNatClampNeg), .int (xs (v3 + 2).toNatClampNeg), .int (xs (v3 + 3).toNatClampNeg)]) (rest := []) ⟨hx, hb, hml, hown, hts⟩ hK hC hM (hDC _) hAC (hCM _) hS (c_X7_faults l D adC cI cJ cZ σ (xs (v3 + 1).toNatClampNeg) (xs (v3 + 2).toNatClampNeg) (xs (v3 + 3).toNatClampNeg) hg_584) (cwV 3 hts gL_law_X7_faults rfl rfl rfl hd_X7_faults ⟨Nat.le_of_ble_eq_true rfl, Nat.le_of_ble_eq_true rfl⟩) rfl (wC_0 _ _ _ _ _) rfl hl.1 rfl (Nat.le_of_ble_eq_true rfl) dL_law_584 hcs (fun H locs hC hM hS => ?_)
  refine lv_aload_n hx hb dL_law_587 rfl (lv_at hl 2 rfl) ?_
  refine lv_aload_n hx hb dL_law_588 rfl (lv_at hl 0 rfl) ?_
  refine lv_iload_n hx hb dL_law_589 rfl (lv_at hl 3 rfl) ?_
  refine lv_iconst (v := 1) hx hb dL_law_590 (by decide) ?_
  refine lv_iadd hx hb dL_law_591 ?_
  obtain ⟨h_592, hf⟩ := oi_e hf
  refine va_sld hx hb hX hbl hbA hS h_592 dL_law_592 ?_
  refine lv_aload_n hx hb dL_law_593 rfl (lv_at hl 0 rfl) ?_
  refine lv_iload_n hx hb dL_law_594 rfl (lv_at hl 3 rfl) ?_
  refine lv_iconst (v := 2) hx hb dL_law_595 (by decide) ?_
  refine lv_iadd hx hb dL_law_596 ?_
  obtain ⟨h_597, hf⟩ := oi_e hf
  refine va_sld hx hb hX hbl hbA hS h_597 dL_law_597 ?_
  refine lv_aload_n hx hb dL_law_598 rfl (lv_at hl 0 rfl) ?_
  refine lv_iload_n hx hb dL_law_599 rfl (lv_at hl 3 rfl) ?_
  refine lv_iconst (v := 3) hx hb dL_law_600 (by decide) ?_
  refine lv_iadd hx hb dL_law_601 ?_
  obtain ⟨h_602, hf⟩ := oi_e hf
  refine va_sld hx hb hX hbl hbA hS h_602 dL_law_602 ?_
  obtain ⟨r_603, hg_603, hf⟩ := oc_e hf
  refine mL_wi (wd := wM adM cI cJ cZ) (σ := τ) (As := [.int (xs (v3 + 1).toNatClampNeg), .int (xs (v3 + 2).toNatClampNeg), .int (xs (v3 + 3).toNatClampNeg)]) (rest := [.int r_584.1]) ⟨hx, hb, hml, hown, hts⟩ hK hM hC (hDM _) hAM (hMC _) hS (c_X8_faults l D adM cI cJ cZ τ (xs (v3 + 1).toNatClampNeg) (xs (v3 + 2).toNatClampNeg) (xs (v3 + 3).toNatClampNeg) hg_603) (cwV 3 hts gL_law_X8_faults rfl rfl rfl hd_X8_faults ⟨Nat.le_of_ble_eq_true rfl, Nat.le_of_ble_eq_true rfl⟩) rfl (wM_0 _ _ _ _ _) rfl hl.1 rfl (Nat.le_of_ble_eq_true rfl) dL_law_603 hcs (fun H locs hM hC hS => ?_)
  refine lv_icmp_eq (tgt := 793) hx hb dL_law_606 (by decide) (fun c_606 => ?_) (fun c_606 => ?_)
  · rw [if_pos c_606] at hf
    exact w_L_793 C0 hts hcs hK hDC hDM hAC hAM hCM hMC k18 hk18 v3 r_584.2 r_603.2 hf _ _ _ hC hM hS (lv_sub hl [0, 1, 2, 3] rfl)
  · rw [if_neg c_606] at hf
    refine lv_iconst (v := 0) hx hb dL_law_609 (by decide) ?_
    exact absurd (Option.some.inj hf) (by decide)
def p_L_611 (xs : Nat → Int32) (L : Nat) (k18 : Int32 → SS → SS → Option Int32) (v3 : Int32) (σ τ : SS) : Option Int32 := oi (v3 + 1) L (oi (v3 + 2) L (oc (p_X7_caller_0 (xs (v3 + 1).toNatClampNeg) (xs (v3 + 2).toNatClampNeg) σ) (fun r_622 => oi (v3 + 1) L (oi (v3 + 2) L (oc (p_X8_caller_0 (xs (v3 + 1).toNatClampNeg) (xs (v3 + 2).toNatClampNeg) τ) (fun r_636 => if r_622.1 = r_636.1 then p_L_793 xs L k18 v3 r_622.2 r_636.2 else some 0))))))
set_option maxHeartbeats 4000000 in
set_option maxRecDepth 100000 in
theorem w_L_611 {p : Program} {l : Launch} {e : Env} {s : State} {m : MethodId} {below : List Frame} {meth : Method} {c : Code} {cells slots : Nat} {D : va_G} {adC adM : Nat → Nat} {cI cJ cZ : ClassId} {b L : Nat} {xs : Nat → Int32} (C0 : lw_At p s m meth c b L xs) (hts : ∀ w ∈ wsL_law, w.before #[Value.ref b] s = true) (hcs : cells ≤ room_1.cells ∧ slots ≤ room_1.slots) (hK : va_K D vwCl (tyw cI cJ cZ) s) (hDC : ∀ σ, va_D (aC adC) (wC adC cI cJ cZ σ)) (hDM : ∀ σ, va_D (aM adM) (wM adM cI cJ cZ σ)) (hAC : ∀ q, aC adC q → s.heap.size ≤ q) (hAM : ∀ q, aM adM q → s.heap.size ≤ q) (hCM : ∀ (τ : SS) (k : Nat) (x : Nat × va_E), (wM adM cI cJ cZ τ)[k]? = some x → ¬ aC adC x.1) (hMC : ∀ (σ : SS) (k : Nat) (x : Nat × va_E), (wC adC cI cJ cZ σ)[k]? = some x → ¬ aM adM x.1) (k18 : Int32 → SS → SS → Option Int32) (hk18 : ∀ (v3 : Int32) (σ τ : SS), k18 v3 σ τ = some 1 → ∀ (H : Heap) (locs : List Loc) (ls : Array Slot), va_P D vwCl (wC adC cI cJ cZ σ) H → va_P D vwCl (wM adM cI cJ cZ τ) H → va_S (fun q : Nat => s.heap.size ≤ q) s.heap H locs → lv_has ls 4 [(0, .ref b), (1, .ref (adC 0)), (2, .ref (adM 0)), (3, .int v3)] → W p l e room_1 s m #[Value.ref b] below meth c H locs cells slots (lw_Z below #[Value.ref b] s) (F0 m 18 ls [])) (v3 : Int32) (σ τ : SS) (hf : p_L_611 xs L k18 v3 σ τ = some 1) (H : Heap) (locs : List Loc) (ls : Array Slot) (hC : va_P D vwCl (wC adC cI cJ cZ σ) H) (hM : va_P D vwCl (wM adM cI cJ cZ τ) H) (hS : va_S (fun q : Nat => s.heap.size ≤ q) s.heap H locs) (hl : lv_has ls 4 [(0, .ref b), (1, .ref (adC 0)), (2, .ref (adM 0)), (3, .int v3)]) : W p l e room_1 s m #[Value.ref b] below meth c H locs cells slots (lw_Z below #[Value.ref b] s) (F0 m 611 ls []) := by
  obtain ⟨hx, hb, hr, hml, hown, -, hX, hbl, hlk, -⟩ := id C0
  have hbA : ¬ (fun q : Nat => s.heap.size ≤ q) b := Nat.not_le.mpr hbl
  unfold p_L_611 at hf
  refine lv_aload_n hx hb dL_law_611 rfl (lv_at hl 1 rfl) ?_
  refine lv_aload_n hx hb dL_law_612 rfl (lv_at hl 0 rfl) ?_
  refine lv_iload_n hx hb dL_law_613 rfl (lv_at hl 3 rfl) ?_
  refine lv_iconst (v := 1) hx hb dL_law_614 (by decide) ?_
  refine lv_iadd hx hb dL_law_615 ?_
  obtain ⟨h_616, hf⟩ := oi_e hf
  refine va_sld hx hb hX hbl hbA hS h_616 dL_law_616 ?_
  refine lv_aload_n hx hb dL_law_617 rfl (lv_at hl 0 rfl) ?_
  refine lv_iload_n hx hb dL_law_618 rfl (lv_at hl 3 rfl) ?_
  refine lv_iconst (v := 2) hx hb dL_law_619 (by decide) ?_
  refine lv_iadd hx hb dL_law_620 ?_
  obtain ⟨h_621, hf⟩ := oi_e hf
  refine va_sld hx hb hX hbl hbA hS h_621 dL_law_621 ?_
  obtain ⟨r_622, hg_622, hf⟩ := oc_e hf
  refine mL_wi (wd := wC adC cI cJ cZ) (σ := σ) (As := [.int (xs (v3 + 1).toNatClampNeg), .int (xs (v3 + 2).toNatClampNeg)]) (rest := []) ⟨hx, hb, hml, hown, hts⟩ hK hC hM (hDC _) hAC (hCM _) hS (c_X7_caller l D adC cI cJ cZ σ (xs (v3 + 1).toNatClampNeg) (xs (v3 + 2).toNatClampNeg) hg_622) (cwV 2 hts gL_law_X7_caller rfl rfl rfl hd_X7_caller ⟨Nat.le_of_ble_eq_true rfl, Nat.le_of_ble_eq_true rfl⟩) rfl (wC_0 _ _ _ _ _) rfl hl.1 rfl (Nat.le_of_ble_eq_true rfl) dL_law_622 hcs (fun H locs hC hM hS => ?_)
  refine lv_aload_n hx hb dL_law_625 rfl (lv_at hl 2 rfl) ?_
  refine lv_aload_n hx hb dL_law_626 rfl (lv_at hl 0 rfl) ?_
  refine lv_iload_n hx hb dL_law_627 rfl (lv_at hl 3 rfl) ?_
  refine lv_iconst (v := 1) hx hb dL_law_628 (by decide) ?_
  refine lv_iadd hx hb dL_law_629 ?_
  obtain ⟨h_630, hf⟩ := oi_e hf
  refine va_sld hx hb hX hbl hbA hS h_630 dL_law_630 ?_
  refine lv_aload_n hx hb dL_law_631 rfl (lv_at hl 0 rfl) ?_
  refine lv_iload_n hx hb dL_law_632 rfl (lv_at hl 3 rfl) ?_
  refine lv_iconst (v := 2) hx hb dL_law_633 (by decide) ?_
  refine lv_iadd hx hb dL_law_634 ?_
  obtain ⟨h_635, hf⟩ := oi_e hf
  refine va_sld hx hb hX hbl hbA hS h_635 dL_law_635 ?_
  obtain ⟨r_636, hg_636, hf⟩ := oc_e hf
  refine mL_wi (wd := wM adM cI cJ cZ) (σ := τ) (As := [.int (xs (v3 + 1).toNatClampNeg), .int (xs (v3 + 2).toNatClampNeg)]) (rest := [.int r_622.1]) ⟨hx, hb, hml, hown, hts⟩ hK hM hC (hDM _) hAM (hMC _) hS (c_X8_caller l D adM cI cJ cZ τ (xs (v3 + 1).toNatClampNeg) (xs (v3 + 2).toNatClampNeg) hg_636) (cwV 2 hts gL_law_X8_caller rfl rfl rfl hd_X8_caller ⟨Nat.le_of_ble_eq_true rfl, Nat.le_of_ble_eq_true rfl⟩) rfl (wM_0 _ _ _ _ _) rfl hl.1 rfl (Nat.le_of_ble_eq_true rfl) dL_law_636 hcs (fun H locs hM hC hS => ?_)
  refine lv_icmp_eq (tgt := 793) hx hb dL_law_639 (by decide) (fun c_639 => ?_) (fun c_639 => ?_)
  · rw [if_pos c_639] at hf
    exact w_L_793 C0 hts hcs hK hDC hDM hAC hAM hCM hMC k18 hk18 v3 r_622.2 r_636.2 hf _ _ _ hC hM hS (lv_sub hl [0, 1, 2, 3] rfl)
  · rw [if_neg c_639] at hf
    refine lv_iconst (v := 0) hx hb dL_law_642 (by decide) ?_
    exact absurd (Option.some.inj hf) (by decide)
def p_L_644 (xs : Nat → Int32) (L : Nat) (k18 : Int32 → SS → SS → Option Int32) (v3 : Int32) (σ τ : SS) : Option Int32 := oi (v3 + 1) L (oi (v3 + 2) L (oc (p_X7_way_0 (xs (v3 + 1).toNatClampNeg) (xs (v3 + 2).toNatClampNeg) σ) (fun r_655 => oi (v3 + 1) L (oi (v3 + 2) L (oc (p_X8_way_0 (xs (v3 + 1).toNatClampNeg) (xs (v3 + 2).toNatClampNeg) τ) (fun r_669 => if r_655.1 = r_669.1 then p_L_793 xs L k18 v3 r_655.2 r_669.2 else some 0))))))
set_option maxHeartbeats 4000000 in
set_option maxRecDepth 100000 in
theorem w_L_644 {p : Program} {l : Launch} {e : Env} {s : State} {m : MethodId} {below : List Frame} {meth : Method} {c : Code} {cells slots : Nat} {D : va_G} {adC adM : Nat → Nat} {cI cJ cZ : ClassId} {b L : Nat} {xs : Nat → Int32} (C0 : lw_At p s m meth c b L xs) (hts : ∀ w ∈ wsL_law, w.before #[Value.ref b] s = true) (hcs : cells ≤ room_1.cells ∧ slots ≤ room_1.slots) (hK : va_K D vwCl (tyw cI cJ cZ) s) (hDC : ∀ σ, va_D (aC adC) (wC adC cI cJ cZ σ)) (hDM : ∀ σ, va_D (aM adM) (wM adM cI cJ cZ σ)) (hAC : ∀ q, aC adC q → s.heap.size ≤ q) (hAM : ∀ q, aM adM q → s.heap.size ≤ q) (hCM : ∀ (τ : SS) (k : Nat) (x : Nat × va_E), (wM adM cI cJ cZ τ)[k]? = some x → ¬ aC adC x.1) (hMC : ∀ (σ : SS) (k : Nat) (x : Nat × va_E), (wC adC cI cJ cZ σ)[k]? = some x → ¬ aM adM x.1) (k18 : Int32 → SS → SS → Option Int32) (hk18 : ∀ (v3 : Int32) (σ τ : SS), k18 v3 σ τ = some 1 → ∀ (H : Heap) (locs : List Loc) (ls : Array Slot), va_P D vwCl (wC adC cI cJ cZ σ) H → va_P D vwCl (wM adM cI cJ cZ τ) H → va_S (fun q : Nat => s.heap.size ≤ q) s.heap H locs → lv_has ls 4 [(0, .ref b), (1, .ref (adC 0)), (2, .ref (adM 0)), (3, .int v3)] → W p l e room_1 s m #[Value.ref b] below meth c H locs cells slots (lw_Z below #[Value.ref b] s) (F0 m 18 ls [])) (v3 : Int32) (σ τ : SS) (hf : p_L_644 xs L k18 v3 σ τ = some 1) (H : Heap) (locs : List Loc) (ls : Array Slot) (hC : va_P D vwCl (wC adC cI cJ cZ σ) H) (hM : va_P D vwCl (wM adM cI cJ cZ τ) H) (hS : va_S (fun q : Nat => s.heap.size ≤ q) s.heap H locs) (hl : lv_has ls 4 [(0, .ref b), (1, .ref (adC 0)), (2, .ref (adM 0)), (3, .int v3)]) : W p l e room_1 s m #[Value.ref b] below meth c H locs cells slots (lw_Z below #[Value.ref b] s) (F0 m 644 ls []) := by
  obtain ⟨hx, hb, hr, hml, hown, -, hX, hbl, hlk, -⟩ := id C0
  have hbA : ¬ (fun q : Nat => s.heap.size ≤ q) b := Nat.not_le.mpr hbl
  unfold p_L_644 at hf
  refine lv_aload_n hx hb dL_law_644 rfl (lv_at hl 1 rfl) ?_
  refine lv_aload_n hx hb dL_law_645 rfl (lv_at hl 0 rfl) ?_
  refine lv_iload_n hx hb dL_law_646 rfl (lv_at hl 3 rfl) ?_
  refine lv_iconst (v := 1) hx hb dL_law_647 (by decide) ?_
  refine lv_iadd hx hb dL_law_648 ?_
  obtain ⟨h_649, hf⟩ := oi_e hf
  refine va_sld hx hb hX hbl hbA hS h_649 dL_law_649 ?_
  refine lv_aload_n hx hb dL_law_650 rfl (lv_at hl 0 rfl) ?_
  refine lv_iload_n hx hb dL_law_651 rfl (lv_at hl 3 rfl) ?_
  refine lv_iconst (v := 2) hx hb dL_law_652 (by decide) ?_
  refine lv_iadd hx hb dL_law_653 ?_
  obtain ⟨h_654, hf⟩ := oi_e hf
  refine va_sld hx hb hX hbl hbA hS h_654 dL_law_654 ?_
  obtain ⟨r_655, hg_655, hf⟩ := oc_e hf
  refine mL_wi (wd := wC adC cI cJ cZ) (σ := σ) (As := [.int (xs (v3 + 1).toNatClampNeg), .int (xs (v3 + 2).toNatClampNeg)]) (rest := []) ⟨hx, hb, hml, hown, hts⟩ hK hC hM (hDC _) hAC (hCM _) hS (c_X7_way l D adC cI cJ cZ σ (xs (v3 + 1).toNatClampNeg) (xs (v3 + 2).toNatClampNeg) hg_655) (cwV 2 hts gL_law_X7_way rfl rfl rfl hd_X7_way ⟨Nat.le_of_ble_eq_true rfl, Nat.le_of_ble_eq_true rfl⟩) rfl (wC_0 _ _ _ _ _) rfl hl.1 rfl (Nat.le_of_ble_eq_true rfl) dL_law_655 hcs (fun H locs hC hM hS => ?_)
  refine lv_aload_n hx hb dL_law_658 rfl (lv_at hl 2 rfl) ?_
  refine lv_aload_n hx hb dL_law_659 rfl (lv_at hl 0 rfl) ?_
  refine lv_iload_n hx hb dL_law_660 rfl (lv_at hl 3 rfl) ?_
  refine lv_iconst (v := 1) hx hb dL_law_661 (by decide) ?_
  refine lv_iadd hx hb dL_law_662 ?_
  obtain ⟨h_663, hf⟩ := oi_e hf
  refine va_sld hx hb hX hbl hbA hS h_663 dL_law_663 ?_
  refine lv_aload_n hx hb dL_law_664 rfl (lv_at hl 0 rfl) ?_
  refine lv_iload_n hx hb dL_law_665 rfl (lv_at hl 3 rfl) ?_
  refine lv_iconst (v := 2) hx hb dL_law_666 (by decide) ?_
  refine lv_iadd hx hb dL_law_667 ?_
  obtain ⟨h_668, hf⟩ := oi_e hf
  refine va_sld hx hb hX hbl hbA hS h_668 dL_law_668 ?_
  obtain ⟨r_669, hg_669, hf⟩ := oc_e hf
  refine mL_wi (wd := wM adM cI cJ cZ) (σ := τ) (As := [.int (xs (v3 + 1).toNatClampNeg), .int (xs (v3 + 2).toNatClampNeg)]) (rest := [.int r_655.1]) ⟨hx, hb, hml, hown, hts⟩ hK hM hC (hDM _) hAM (hMC _) hS (c_X8_way l D adM cI cJ cZ τ (xs (v3 + 1).toNatClampNeg) (xs (v3 + 2).toNatClampNeg) hg_669) (cwV 2 hts gL_law_X8_way rfl rfl rfl hd_X8_way ⟨Nat.le_of_ble_eq_true rfl, Nat.le_of_ble_eq_true rfl⟩) rfl (wM_0 _ _ _ _ _) rfl hl.1 rfl (Nat.le_of_ble_eq_true rfl) dL_law_669 hcs (fun H locs hM hC hS => ?_)
  refine lv_icmp_eq (tgt := 793) hx hb dL_law_672 (by decide) (fun c_672 => ?_) (fun c_672 => ?_)
  · rw [if_pos c_672] at hf
    exact w_L_793 C0 hts hcs hK hDC hDM hAC hAM hCM hMC k18 hk18 v3 r_655.2 r_669.2 hf _ _ _ hC hM hS (lv_sub hl [0, 1, 2, 3] rfl)
  · rw [if_neg c_672] at hf
    refine lv_iconst (v := 0) hx hb dL_law_675 (by decide) ?_
    exact absurd (Option.some.inj hf) (by decide)
def p_L_677 (xs : Nat → Int32) (L : Nat) (k18 : Int32 → SS → SS → Option Int32) (v3 : Int32) (σ τ : SS) : Option Int32 := oi (v3 + 1) L (oi (v3 + 2) L (oi (v3 + 3) L (oc (p_X7_run_0 ((jshl ((xs (v3 + 1).toNatClampNeg).toInt64) 32) ||| (((xs (v3 + 2).toNatClampNeg).toInt64) &&& (4294967295))) (xs (v3 + 3).toNatClampNeg) σ) (fun r_703 => oi (v3 + 1) L (oi (v3 + 2) L (oi (v3 + 3) L (oc (p_X8_run_0 ((jshl ((xs (v3 + 1).toNatClampNeg).toInt64) 32) ||| (((xs (v3 + 2).toNatClampNeg).toInt64) &&& (4294967295))) (xs (v3 + 3).toNatClampNeg) τ) (fun r_732 => if r_703.1 = r_732.1 then p_L_793 xs L k18 v3 r_703.2 r_732.2 else some 0))))))))
set_option maxHeartbeats 4000000 in
set_option maxRecDepth 100000 in
theorem w_L_677 {p : Program} {l : Launch} {e : Env} {s : State} {m : MethodId} {below : List Frame} {meth : Method} {c : Code} {cells slots : Nat} {D : va_G} {adC adM : Nat → Nat} {cI cJ cZ : ClassId} {b L : Nat} {xs : Nat → Int32} (C0 : lw_At p s m meth c b L xs) (hts : ∀ w ∈ wsL_law, w.before #[Value.ref b] s = true) (hcs : cells ≤ room_1.cells ∧ slots ≤ room_1.slots) (hK : va_K D vwCl (tyw cI cJ cZ) s) (hDC : ∀ σ, va_D (aC adC) (wC adC cI cJ cZ σ)) (hDM : ∀ σ, va_D (aM adM) (wM adM cI cJ cZ σ)) (hAC : ∀ q, aC adC q → s.heap.size ≤ q) (hAM : ∀ q, aM adM q → s.heap.size ≤ q) (hCM : ∀ (τ : SS) (k : Nat) (x : Nat × va_E), (wM adM cI cJ cZ τ)[k]? = some x → ¬ aC adC x.1) (hMC : ∀ (σ : SS) (k : Nat) (x : Nat × va_E), (wC adC cI cJ cZ σ)[k]? = some x → ¬ aM adM x.1) (k18 : Int32 → SS → SS → Option Int32) (hk18 : ∀ (v3 : Int32) (σ τ : SS), k18 v3 σ τ = some 1 → ∀ (H : Heap) (locs : List Loc) (ls : Array Slot), va_P D vwCl (wC adC cI cJ cZ σ) H → va_P D vwCl (wM adM cI cJ cZ τ) H → va_S (fun q : Nat => s.heap.size ≤ q) s.heap H locs → lv_has ls 4 [(0, .ref b), (1, .ref (adC 0)), (2, .ref (adM 0)), (3, .int v3)] → W p l e room_1 s m #[Value.ref b] below meth c H locs cells slots (lw_Z below #[Value.ref b] s) (F0 m 18 ls [])) (v3 : Int32) (σ τ : SS) (hf : p_L_677 xs L k18 v3 σ τ = some 1) (H : Heap) (locs : List Loc) (ls : Array Slot) (hC : va_P D vwCl (wC adC cI cJ cZ σ) H) (hM : va_P D vwCl (wM adM cI cJ cZ τ) H) (hS : va_S (fun q : Nat => s.heap.size ≤ q) s.heap H locs) (hl : lv_has ls 4 [(0, .ref b), (1, .ref (adC 0)), (2, .ref (adM 0)), (3, .int v3)]) : W p l e room_1 s m #[Value.ref b] below meth c H locs cells slots (lw_Z below #[Value.ref b] s) (F0 m 677 ls []) := by
  obtain ⟨hx, hb, hr, hml, hown, -, hX, hbl, hlk, -⟩ := id C0
  have hbA : ¬ (fun q : Nat => s.heap.size ≤ q) b := Nat.not_le.mpr hbl
  unfold p_L_677 at hf
  refine lv_aload_n hx hb dL_law_677 rfl (lv_at hl 1 rfl) ?_
  refine lv_aload_n hx hb dL_law_678 rfl (lv_at hl 0 rfl) ?_
  refine lv_iload_n hx hb dL_law_679 rfl (lv_at hl 3 rfl) ?_
  refine lv_iconst (v := 1) hx hb dL_law_680 (by decide) ?_
  refine lv_iadd hx hb dL_law_681 ?_
  obtain ⟨h_682, hf⟩ := oi_e hf
  refine va_sld hx hb hX hbl hbA hS h_682 dL_law_682 ?_
  refine lv_i2l (v := ((xs (v3 + 1).toNatClampNeg).toInt64)) hx hb dL_law_683 rfl ?_
  refine lv_bipush (v := 32) hx hb dL_law_684 (by decide) ?_
  refine lv_lshl (v := (jshl ((xs (v3 + 1).toNatClampNeg).toInt64) 32)) hx hb dL_law_686 rfl ?_
  refine lv_aload_n hx hb dL_law_687 rfl (lv_at hl 0 rfl) ?_
  refine lv_iload_n hx hb dL_law_688 rfl (lv_at hl 3 rfl) ?_
  refine lv_iconst (v := 2) hx hb dL_law_689 (by decide) ?_
  refine lv_iadd hx hb dL_law_690 ?_
  obtain ⟨h_691, hf⟩ := oi_e hf
  refine va_sld hx hb hX hbl hbA hS h_691 dL_law_691 ?_
  refine lv_i2l (v := ((xs (v3 + 2).toNatClampNeg).toInt64)) hx hb dL_law_692 rfl ?_
  refine lv_ldc2 (own := RL) hx hb hown (hts (.constantLong RL 78 (4294967295)) (List.mem_of_getElem? (i := 6) rfl)) dL_law_693 ?_
  refine lv_land hx hb dL_law_696 ?_
  refine lv_lor hx hb dL_law_697 ?_
  refine lv_aload_n hx hb dL_law_698 rfl (lv_at hl 0 rfl) ?_
  refine lv_iload_n hx hb dL_law_699 rfl (lv_at hl 3 rfl) ?_
  refine lv_iconst (v := 3) hx hb dL_law_700 (by decide) ?_
  refine lv_iadd hx hb dL_law_701 ?_
  obtain ⟨h_702, hf⟩ := oi_e hf
  refine va_sld hx hb hX hbl hbA hS h_702 dL_law_702 ?_
  obtain ⟨r_703, hg_703, hf⟩ := oc_e hf
  refine mL_wi (wd := wC adC cI cJ cZ) (σ := σ) (As := [.long ((jshl ((xs (v3 + 1).toNatClampNeg).toInt64) 32) ||| (((xs (v3 + 2).toNatClampNeg).toInt64) &&& (4294967295))), .int (xs (v3 + 3).toNatClampNeg)]) (rest := []) ⟨hx, hb, hml, hown, hts⟩ hK hC hM (hDC _) hAC (hCM _) hS (c_X7_run l D adC cI cJ cZ σ ((jshl ((xs (v3 + 1).toNatClampNeg).toInt64) 32) ||| (((xs (v3 + 2).toNatClampNeg).toInt64) &&& (4294967295))) (xs (v3 + 3).toNatClampNeg) hg_703) (cwV 2 hts gL_law_X7_run rfl rfl rfl hd_X7_run ⟨Nat.le_of_ble_eq_true rfl, Nat.le_of_ble_eq_true rfl⟩) rfl (wC_0 _ _ _ _ _) rfl hl.1 rfl (Nat.le_of_ble_eq_true rfl) dL_law_703 hcs (fun H locs hC hM hS => ?_)
  refine lv_aload_n hx hb dL_law_706 rfl (lv_at hl 2 rfl) ?_
  refine lv_aload_n hx hb dL_law_707 rfl (lv_at hl 0 rfl) ?_
  refine lv_iload_n hx hb dL_law_708 rfl (lv_at hl 3 rfl) ?_
  refine lv_iconst (v := 1) hx hb dL_law_709 (by decide) ?_
  refine lv_iadd hx hb dL_law_710 ?_
  obtain ⟨h_711, hf⟩ := oi_e hf
  refine va_sld hx hb hX hbl hbA hS h_711 dL_law_711 ?_
  refine lv_i2l (v := ((xs (v3 + 1).toNatClampNeg).toInt64)) hx hb dL_law_712 rfl ?_
  refine lv_bipush (v := 32) hx hb dL_law_713 (by decide) ?_
  refine lv_lshl (v := (jshl ((xs (v3 + 1).toNatClampNeg).toInt64) 32)) hx hb dL_law_715 rfl ?_
  refine lv_aload_n hx hb dL_law_716 rfl (lv_at hl 0 rfl) ?_
  refine lv_iload_n hx hb dL_law_717 rfl (lv_at hl 3 rfl) ?_
  refine lv_iconst (v := 2) hx hb dL_law_718 (by decide) ?_
  refine lv_iadd hx hb dL_law_719 ?_
  obtain ⟨h_720, hf⟩ := oi_e hf
  refine va_sld hx hb hX hbl hbA hS h_720 dL_law_720 ?_
  refine lv_i2l (v := ((xs (v3 + 2).toNatClampNeg).toInt64)) hx hb dL_law_721 rfl ?_
  refine lv_ldc2 (own := RL) hx hb hown (hts (.constantLong RL 78 (4294967295)) (List.mem_of_getElem? (i := 6) rfl)) dL_law_722 ?_
  refine lv_land hx hb dL_law_725 ?_
  refine lv_lor hx hb dL_law_726 ?_
  refine lv_aload_n hx hb dL_law_727 rfl (lv_at hl 0 rfl) ?_
  refine lv_iload_n hx hb dL_law_728 rfl (lv_at hl 3 rfl) ?_
  refine lv_iconst (v := 3) hx hb dL_law_729 (by decide) ?_
  refine lv_iadd hx hb dL_law_730 ?_
  obtain ⟨h_731, hf⟩ := oi_e hf
  refine va_sld hx hb hX hbl hbA hS h_731 dL_law_731 ?_
  obtain ⟨r_732, hg_732, hf⟩ := oc_e hf
  refine mL_wi (wd := wM adM cI cJ cZ) (σ := τ) (As := [.long ((jshl ((xs (v3 + 1).toNatClampNeg).toInt64) 32) ||| (((xs (v3 + 2).toNatClampNeg).toInt64) &&& (4294967295))), .int (xs (v3 + 3).toNatClampNeg)]) (rest := [.int r_703.1]) ⟨hx, hb, hml, hown, hts⟩ hK hM hC (hDM _) hAM (hMC _) hS (c_X8_run l D adM cI cJ cZ τ ((jshl ((xs (v3 + 1).toNatClampNeg).toInt64) 32) ||| (((xs (v3 + 2).toNatClampNeg).toInt64) &&& (4294967295))) (xs (v3 + 3).toNatClampNeg) hg_732) (cwV 2 hts gL_law_X8_run rfl rfl rfl hd_X8_run ⟨Nat.le_of_ble_eq_true rfl, Nat.le_of_ble_eq_true rfl⟩) rfl (wM_0 _ _ _ _ _) rfl hl.1 rfl (Nat.le_of_ble_eq_true rfl) dL_law_732 hcs (fun H locs hM hC hS => ?_)
  refine lv_icmp_eq (tgt := 793) hx hb dL_law_735 (by decide) (fun c_735 => ?_) (fun c_735 => ?_)
  · rw [if_pos c_735] at hf
    exact w_L_793 C0 hts hcs hK hDC hDM hAC hAM hCM hMC k18 hk18 v3 r_703.2 r_732.2 hf _ _ _ hC hM hS (lv_sub hl [0, 1, 2, 3] rfl)
  · rw [if_neg c_735] at hf
    refine lv_iconst (v := 0) hx hb dL_law_738 (by decide) ?_
    exact absurd (Option.some.inj hf) (by decide)
def p_L_740 (xs : Nat → Int32) (L : Nat) (k18 : Int32 → SS → SS → Option Int32) (v3 : Int32) (σ τ : SS) : Option Int32 := oi (v3 + 1) L (oi (v3 + 2) L (oc (p_X7_holds_0 ((jshl ((xs (v3 + 1).toNatClampNeg).toInt64) 32) ||| (((xs (v3 + 2).toNatClampNeg).toInt64) &&& (4294967295))) σ) (fun r_761 => oi (v3 + 1) L (oi (v3 + 2) L (oc (p_X8_holds_0 ((jshl ((xs (v3 + 1).toNatClampNeg).toInt64) 32) ||| (((xs (v3 + 2).toNatClampNeg).toInt64) &&& (4294967295))) τ) (fun r_785 => if r_761.1 = r_785.1 then p_L_793 xs L k18 v3 r_761.2 r_785.2 else some 0))))))
set_option maxHeartbeats 4000000 in
set_option maxRecDepth 100000 in
theorem w_L_740 {p : Program} {l : Launch} {e : Env} {s : State} {m : MethodId} {below : List Frame} {meth : Method} {c : Code} {cells slots : Nat} {D : va_G} {adC adM : Nat → Nat} {cI cJ cZ : ClassId} {b L : Nat} {xs : Nat → Int32} (C0 : lw_At p s m meth c b L xs) (hts : ∀ w ∈ wsL_law, w.before #[Value.ref b] s = true) (hcs : cells ≤ room_1.cells ∧ slots ≤ room_1.slots) (hK : va_K D vwCl (tyw cI cJ cZ) s) (hDC : ∀ σ, va_D (aC adC) (wC adC cI cJ cZ σ)) (hDM : ∀ σ, va_D (aM adM) (wM adM cI cJ cZ σ)) (hAC : ∀ q, aC adC q → s.heap.size ≤ q) (hAM : ∀ q, aM adM q → s.heap.size ≤ q) (hCM : ∀ (τ : SS) (k : Nat) (x : Nat × va_E), (wM adM cI cJ cZ τ)[k]? = some x → ¬ aC adC x.1) (hMC : ∀ (σ : SS) (k : Nat) (x : Nat × va_E), (wC adC cI cJ cZ σ)[k]? = some x → ¬ aM adM x.1) (k18 : Int32 → SS → SS → Option Int32) (hk18 : ∀ (v3 : Int32) (σ τ : SS), k18 v3 σ τ = some 1 → ∀ (H : Heap) (locs : List Loc) (ls : Array Slot), va_P D vwCl (wC adC cI cJ cZ σ) H → va_P D vwCl (wM adM cI cJ cZ τ) H → va_S (fun q : Nat => s.heap.size ≤ q) s.heap H locs → lv_has ls 4 [(0, .ref b), (1, .ref (adC 0)), (2, .ref (adM 0)), (3, .int v3)] → W p l e room_1 s m #[Value.ref b] below meth c H locs cells slots (lw_Z below #[Value.ref b] s) (F0 m 18 ls [])) (v3 : Int32) (σ τ : SS) (hf : p_L_740 xs L k18 v3 σ τ = some 1) (H : Heap) (locs : List Loc) (ls : Array Slot) (hC : va_P D vwCl (wC adC cI cJ cZ σ) H) (hM : va_P D vwCl (wM adM cI cJ cZ τ) H) (hS : va_S (fun q : Nat => s.heap.size ≤ q) s.heap H locs) (hl : lv_has ls 4 [(0, .ref b), (1, .ref (adC 0)), (2, .ref (adM 0)), (3, .int v3)]) : W p l e room_1 s m #[Value.ref b] below meth c H locs cells slots (lw_Z below #[Value.ref b] s) (F0 m 740 ls []) := by
  obtain ⟨hx, hb, hr, hml, hown, -, hX, hbl, hlk, -⟩ := id C0
  have hbA : ¬ (fun q : Nat => s.heap.size ≤ q) b := Nat.not_le.mpr hbl
  unfold p_L_740 at hf
  refine lv_aload_n hx hb dL_law_740 rfl (lv_at hl 1 rfl) ?_
  refine lv_aload_n hx hb dL_law_741 rfl (lv_at hl 0 rfl) ?_
  refine lv_iload_n hx hb dL_law_742 rfl (lv_at hl 3 rfl) ?_
  refine lv_iconst (v := 1) hx hb dL_law_743 (by decide) ?_
  refine lv_iadd hx hb dL_law_744 ?_
  obtain ⟨h_745, hf⟩ := oi_e hf
  refine va_sld hx hb hX hbl hbA hS h_745 dL_law_745 ?_
  refine lv_i2l (v := ((xs (v3 + 1).toNatClampNeg).toInt64)) hx hb dL_law_746 rfl ?_
  refine lv_bipush (v := 32) hx hb dL_law_747 (by decide) ?_
  refine lv_lshl (v := (jshl ((xs (v3 + 1).toNatClampNeg).toInt64) 32)) hx hb dL_law_749 rfl ?_
  refine lv_aload_n hx hb dL_law_750 rfl (lv_at hl 0 rfl) ?_
  refine lv_iload_n hx hb dL_law_751 rfl (lv_at hl 3 rfl) ?_
  refine lv_iconst (v := 2) hx hb dL_law_752 (by decide) ?_
  refine lv_iadd hx hb dL_law_753 ?_
  obtain ⟨h_754, hf⟩ := oi_e hf
  refine va_sld hx hb hX hbl hbA hS h_754 dL_law_754 ?_
  refine lv_i2l (v := ((xs (v3 + 2).toNatClampNeg).toInt64)) hx hb dL_law_755 rfl ?_
  refine lv_ldc2 (own := RL) hx hb hown (hts (.constantLong RL 78 (4294967295)) (List.mem_of_getElem? (i := 6) rfl)) dL_law_756 ?_
  refine lv_land hx hb dL_law_759 ?_
  refine lv_lor hx hb dL_law_760 ?_
  obtain ⟨r_761, hg_761, hf⟩ := oc_e hf
  refine mL_wi (wd := wC adC cI cJ cZ) (σ := σ) (As := [.long ((jshl ((xs (v3 + 1).toNatClampNeg).toInt64) 32) ||| (((xs (v3 + 2).toNatClampNeg).toInt64) &&& (4294967295)))]) (rest := []) ⟨hx, hb, hml, hown, hts⟩ hK hC hM (hDC _) hAC (hCM _) hS (c_X7_holds l D adC cI cJ cZ σ ((jshl ((xs (v3 + 1).toNatClampNeg).toInt64) 32) ||| (((xs (v3 + 2).toNatClampNeg).toInt64) &&& (4294967295))) hg_761) (cwV 1 hts gL_law_X7_holds rfl rfl rfl hd_X7_holds ⟨Nat.le_of_ble_eq_true rfl, Nat.le_of_ble_eq_true rfl⟩) rfl (wC_0 _ _ _ _ _) rfl hl.1 rfl (Nat.le_of_ble_eq_true rfl) dL_law_761 hcs (fun H locs hC hM hS => ?_)
  refine lv_aload_n hx hb dL_law_764 rfl (lv_at hl 2 rfl) ?_
  refine lv_aload_n hx hb dL_law_765 rfl (lv_at hl 0 rfl) ?_
  refine lv_iload_n hx hb dL_law_766 rfl (lv_at hl 3 rfl) ?_
  refine lv_iconst (v := 1) hx hb dL_law_767 (by decide) ?_
  refine lv_iadd hx hb dL_law_768 ?_
  obtain ⟨h_769, hf⟩ := oi_e hf
  refine va_sld hx hb hX hbl hbA hS h_769 dL_law_769 ?_
  refine lv_i2l (v := ((xs (v3 + 1).toNatClampNeg).toInt64)) hx hb dL_law_770 rfl ?_
  refine lv_bipush (v := 32) hx hb dL_law_771 (by decide) ?_
  refine lv_lshl (v := (jshl ((xs (v3 + 1).toNatClampNeg).toInt64) 32)) hx hb dL_law_773 rfl ?_
  refine lv_aload_n hx hb dL_law_774 rfl (lv_at hl 0 rfl) ?_
  refine lv_iload_n hx hb dL_law_775 rfl (lv_at hl 3 rfl) ?_
  refine lv_iconst (v := 2) hx hb dL_law_776 (by decide) ?_
  refine lv_iadd hx hb dL_law_777 ?_
  obtain ⟨h_778, hf⟩ := oi_e hf
  refine va_sld hx hb hX hbl hbA hS h_778 dL_law_778 ?_
  refine lv_i2l (v := ((xs (v3 + 2).toNatClampNeg).toInt64)) hx hb dL_law_779 rfl ?_
  refine lv_ldc2 (own := RL) hx hb hown (hts (.constantLong RL 78 (4294967295)) (List.mem_of_getElem? (i := 6) rfl)) dL_law_780 ?_
  refine lv_land hx hb dL_law_783 ?_
  refine lv_lor hx hb dL_law_784 ?_
  obtain ⟨r_785, hg_785, hf⟩ := oc_e hf
  refine mL_wi (wd := wM adM cI cJ cZ) (σ := τ) (As := [.long ((jshl ((xs (v3 + 1).toNatClampNeg).toInt64) 32) ||| (((xs (v3 + 2).toNatClampNeg).toInt64) &&& (4294967295)))]) (rest := [.int r_761.1]) ⟨hx, hb, hml, hown, hts⟩ hK hM hC (hDM _) hAM (hMC _) hS (c_X8_holds l D adM cI cJ cZ τ ((jshl ((xs (v3 + 1).toNatClampNeg).toInt64) 32) ||| (((xs (v3 + 2).toNatClampNeg).toInt64) &&& (4294967295))) hg_785) (cwV 1 hts gL_law_X8_holds rfl rfl rfl hd_X8_holds ⟨Nat.le_of_ble_eq_true rfl, Nat.le_of_ble_eq_true rfl⟩) rfl (wM_0 _ _ _ _ _) rfl hl.1 rfl (Nat.le_of_ble_eq_true rfl) dL_law_785 hcs (fun H locs hM hC hS => ?_)
  refine lv_icmp_eq (tgt := 793) hx hb dL_law_788 (by decide) (fun c_788 => ?_) (fun c_788 => ?_)
  · rw [if_pos c_788] at hf
    exact w_L_793 C0 hts hcs hK hDC hDM hAC hAM hCM hMC k18 hk18 v3 r_761.2 r_785.2 hf _ _ _ hC hM hS (lv_sub hl [0, 1, 2, 3] rfl)
  · rw [if_neg c_788] at hf
    refine lv_iconst (v := 0) hx hb dL_law_791 (by decide) ?_
    exact absurd (Option.some.inj hf) (by decide)
def p_L_18 (xs : Nat → Int32) (L : Nat) : Nat → Int32 → SS → SS → Option Int32
  | 0, _, _, _ => none
  | n + 1, v3, σ, τ => let k18 := p_L_18 xs L n; if ((Int32.ofNat L) - 5) < v3 then some 1 else oi v3 L ((if ((xs v3.toNatClampNeg) &&& 31) = 0 then p_L_116 xs L k18 v3 σ τ else if ((xs v3.toNatClampNeg) &&& 31) = 1 then p_L_149 xs L k18 v3 σ τ else if ((xs v3.toNatClampNeg) &&& 31) = 2 then p_L_182 xs L k18 v3 σ τ else if ((xs v3.toNatClampNeg) &&& 31) = 3 then p_L_225 xs L k18 v3 σ τ else if ((xs v3.toNatClampNeg) &&& 31) = 4 then p_L_278 xs L k18 v3 σ τ else if ((xs v3.toNatClampNeg) &&& 31) = 5 then p_L_327 xs L k18 v3 σ τ else if ((xs v3.toNatClampNeg) &&& 31) = 6 then p_L_350 xs L k18 v3 σ τ else if ((xs v3.toNatClampNeg) &&& 31) = 7 then p_L_383 xs L k18 v3 σ τ else if ((xs v3.toNatClampNeg) &&& 31) = 8 then p_L_416 xs L k18 v3 σ τ else if ((xs v3.toNatClampNeg) &&& 31) = 9 then p_L_459 xs L k18 v3 σ τ else if ((xs v3.toNatClampNeg) &&& 31) = 10 then p_L_492 xs L k18 v3 σ τ else if ((xs v3.toNatClampNeg) &&& 31) = 11 then p_L_525 xs L k18 v3 σ τ else if ((xs v3.toNatClampNeg) &&& 31) = 12 then p_L_568 xs L k18 v3 σ τ else if ((xs v3.toNatClampNeg) &&& 31) = 13 then p_L_611 xs L k18 v3 σ τ else if ((xs v3.toNatClampNeg) &&& 31) = 14 then p_L_644 xs L k18 v3 σ τ else if ((xs v3.toNatClampNeg) &&& 31) = 15 then p_L_677 xs L k18 v3 σ τ else if ((xs v3.toNatClampNeg) &&& 31) = 16 then p_L_740 xs L k18 v3 σ τ else p_L_793 xs L k18 v3 σ τ))
set_option maxHeartbeats 4000000 in
set_option maxRecDepth 100000 in
theorem w_L_18 {p : Program} {l : Launch} {e : Env} {s : State} {m : MethodId} {below : List Frame} {meth : Method} {c : Code} {cells slots : Nat} {D : va_G} {adC adM : Nat → Nat} {cI cJ cZ : ClassId} {b L : Nat} {xs : Nat → Int32} (C0 : lw_At p s m meth c b L xs) (hts : ∀ w ∈ wsL_law, w.before #[Value.ref b] s = true) (hcs : cells ≤ room_1.cells ∧ slots ≤ room_1.slots) (hK : va_K D vwCl (tyw cI cJ cZ) s) (hDC : ∀ σ, va_D (aC adC) (wC adC cI cJ cZ σ)) (hDM : ∀ σ, va_D (aM adM) (wM adM cI cJ cZ σ)) (hAC : ∀ q, aC adC q → s.heap.size ≤ q) (hAM : ∀ q, aM adM q → s.heap.size ≤ q) (hCM : ∀ (τ : SS) (k : Nat) (x : Nat × va_E), (wM adM cI cJ cZ τ)[k]? = some x → ¬ aC adC x.1) (hMC : ∀ (σ : SS) (k : Nat) (x : Nat × va_E), (wC adC cI cJ cZ σ)[k]? = some x → ¬ aM adM x.1) : ∀ (n : Nat) (v3 : Int32) (σ τ : SS), p_L_18 xs L n v3 σ τ = some 1 → ∀ (H : Heap) (locs : List Loc) (ls : Array Slot), va_P D vwCl (wC adC cI cJ cZ σ) H → va_P D vwCl (wM adM cI cJ cZ τ) H → va_S (fun q : Nat => s.heap.size ≤ q) s.heap H locs → lv_has ls 4 [(0, .ref b), (1, .ref (adC 0)), (2, .ref (adM 0)), (3, .int v3)] → W p l e room_1 s m #[Value.ref b] below meth c H locs cells slots (lw_Z below #[Value.ref b] s) (F0 m 18 ls []) := by
  obtain ⟨hx, hb, hr, hml, hown, -, hX, hbl, hlk, -⟩ := id C0
  have hbA : ¬ (fun q : Nat => s.heap.size ≤ q) b := Nat.not_le.mpr hbl
  intro n
  induction n with
  | zero =>
    intro _ _ _ hf
    cases hf
  | succ n hk18 =>
    intro v3 σ τ hf H locs ls hC hM hS hl
    rw [p_L_18] at hf
    try dsimp only at hf
    refine lv_iload_n hx hb dL_law_18 rfl (lv_at hl 3 rfl) ?_
    refine lv_aload_n hx hb dL_law_19 rfl (lv_at hl 0 rfl) ?_
    refine va_slen hx hb hX hbl hbA hS dL_law_20 ?_
    refine lv_iconst (v := 5) hx hb dL_law_21 (by decide) ?_
    refine lv_isub hx hb dL_law_22 ?_
    refine lv_icmp_gt (tgt := 799) hx hb dL_law_23 (by decide) (fun c_23 => ?_) (fun c_23 => ?_)
    · rw [if_pos c_23] at hf
      refine lv_iconst (v := 1) hx hb dL_law_799 (by decide) ?_
      refine va_forget (fun q hq => hS.2.2 q hq) ?_
      refine W.widen (k := 600000) (n := 7302249) hcs.1 hcs.2 ?_
      exact lw_ret hx hb hr hlk dL_law_800
    · rw [if_neg c_23] at hf
      refine lv_aload_n hx hb dL_law_26 rfl (lv_at hl 0 rfl) ?_
      refine lv_iload_n hx hb dL_law_27 rfl (lv_at hl 3 rfl) ?_
      obtain ⟨h_28, hf⟩ := oi_e hf
      refine va_sld hx hb hX hbl hbA hS h_28 dL_law_28 ?_
      refine lv_bipush (v := 31) hx hb dL_law_29 (by decide) ?_
      refine lv_iand hx hb dL_law_31 ?_
      by_cases c_32_0 : ((xs v3.toNatClampNeg) &&& 31) = 0
      · rw [if_pos c_32_0] at hf
        refine lv_tableIn (off := 84) (tgt := 116) hx hb dL_law_32 (by rw [c_32_0]; decide) (by rw [c_32_0]; decide) (by rw [c_32_0]; rfl) (by decide) ?_
        exact w_L_116 C0 hts hcs hK hDC hDM hAC hAM hCM hMC (p_L_18 xs L n) hk18 v3 σ τ hf _ _ _ hC hM hS (lv_sub hl [0, 1, 2, 3] rfl)
      rw [if_neg c_32_0] at hf
      by_cases c_32_1 : ((xs v3.toNatClampNeg) &&& 31) = 1
      · rw [if_pos c_32_1] at hf
        refine lv_tableIn (off := 117) (tgt := 149) hx hb dL_law_32 (by rw [c_32_1]; decide) (by rw [c_32_1]; decide) (by rw [c_32_1]; rfl) (by decide) ?_
        exact w_L_149 C0 hts hcs hK hDC hDM hAC hAM hCM hMC (p_L_18 xs L n) hk18 v3 σ τ hf _ _ _ hC hM hS (lv_sub hl [0, 1, 2, 3] rfl)
      rw [if_neg c_32_1] at hf
      by_cases c_32_2 : ((xs v3.toNatClampNeg) &&& 31) = 2
      · rw [if_pos c_32_2] at hf
        refine lv_tableIn (off := 150) (tgt := 182) hx hb dL_law_32 (by rw [c_32_2]; decide) (by rw [c_32_2]; decide) (by rw [c_32_2]; rfl) (by decide) ?_
        exact w_L_182 C0 hts hcs hK hDC hDM hAC hAM hCM hMC (p_L_18 xs L n) hk18 v3 σ τ hf _ _ _ hC hM hS (lv_sub hl [0, 1, 2, 3] rfl)
      rw [if_neg c_32_2] at hf
      by_cases c_32_3 : ((xs v3.toNatClampNeg) &&& 31) = 3
      · rw [if_pos c_32_3] at hf
        refine lv_tableIn (off := 193) (tgt := 225) hx hb dL_law_32 (by rw [c_32_3]; decide) (by rw [c_32_3]; decide) (by rw [c_32_3]; rfl) (by decide) ?_
        exact w_L_225 C0 hts hcs hK hDC hDM hAC hAM hCM hMC (p_L_18 xs L n) hk18 v3 σ τ hf _ _ _ hC hM hS (lv_sub hl [0, 1, 2, 3] rfl)
      rw [if_neg c_32_3] at hf
      by_cases c_32_4 : ((xs v3.toNatClampNeg) &&& 31) = 4
      · rw [if_pos c_32_4] at hf
        refine lv_tableIn (off := 246) (tgt := 278) hx hb dL_law_32 (by rw [c_32_4]; decide) (by rw [c_32_4]; decide) (by rw [c_32_4]; rfl) (by decide) ?_
        exact w_L_278 C0 hts hcs hK hDC hDM hAC hAM hCM hMC (p_L_18 xs L n) hk18 v3 σ τ hf _ _ _ hC hM hS (lv_sub hl [0, 1, 2, 3] rfl)
      rw [if_neg c_32_4] at hf
      by_cases c_32_5 : ((xs v3.toNatClampNeg) &&& 31) = 5
      · rw [if_pos c_32_5] at hf
        refine lv_tableIn (off := 295) (tgt := 327) hx hb dL_law_32 (by rw [c_32_5]; decide) (by rw [c_32_5]; decide) (by rw [c_32_5]; rfl) (by decide) ?_
        exact w_L_327 C0 hts hcs hK hDC hDM hAC hAM hCM hMC (p_L_18 xs L n) hk18 v3 σ τ hf _ _ _ hC hM hS (lv_sub hl [0, 1, 2, 3] rfl)
      rw [if_neg c_32_5] at hf
      by_cases c_32_6 : ((xs v3.toNatClampNeg) &&& 31) = 6
      · rw [if_pos c_32_6] at hf
        refine lv_tableIn (off := 318) (tgt := 350) hx hb dL_law_32 (by rw [c_32_6]; decide) (by rw [c_32_6]; decide) (by rw [c_32_6]; rfl) (by decide) ?_
        exact w_L_350 C0 hts hcs hK hDC hDM hAC hAM hCM hMC (p_L_18 xs L n) hk18 v3 σ τ hf _ _ _ hC hM hS (lv_sub hl [0, 1, 2, 3] rfl)
      rw [if_neg c_32_6] at hf
      by_cases c_32_7 : ((xs v3.toNatClampNeg) &&& 31) = 7
      · rw [if_pos c_32_7] at hf
        refine lv_tableIn (off := 351) (tgt := 383) hx hb dL_law_32 (by rw [c_32_7]; decide) (by rw [c_32_7]; decide) (by rw [c_32_7]; rfl) (by decide) ?_
        exact w_L_383 C0 hts hcs hK hDC hDM hAC hAM hCM hMC (p_L_18 xs L n) hk18 v3 σ τ hf _ _ _ hC hM hS (lv_sub hl [0, 1, 2, 3] rfl)
      rw [if_neg c_32_7] at hf
      by_cases c_32_8 : ((xs v3.toNatClampNeg) &&& 31) = 8
      · rw [if_pos c_32_8] at hf
        refine lv_tableIn (off := 384) (tgt := 416) hx hb dL_law_32 (by rw [c_32_8]; decide) (by rw [c_32_8]; decide) (by rw [c_32_8]; rfl) (by decide) ?_
        exact w_L_416 C0 hts hcs hK hDC hDM hAC hAM hCM hMC (p_L_18 xs L n) hk18 v3 σ τ hf _ _ _ hC hM hS (lv_sub hl [0, 1, 2, 3] rfl)
      rw [if_neg c_32_8] at hf
      by_cases c_32_9 : ((xs v3.toNatClampNeg) &&& 31) = 9
      · rw [if_pos c_32_9] at hf
        refine lv_tableIn (off := 427) (tgt := 459) hx hb dL_law_32 (by rw [c_32_9]; decide) (by rw [c_32_9]; decide) (by rw [c_32_9]; rfl) (by decide) ?_
        exact w_L_459 C0 hts hcs hK hDC hDM hAC hAM hCM hMC (p_L_18 xs L n) hk18 v3 σ τ hf _ _ _ hC hM hS (lv_sub hl [0, 1, 2, 3] rfl)
      rw [if_neg c_32_9] at hf
      by_cases c_32_10 : ((xs v3.toNatClampNeg) &&& 31) = 10
      · rw [if_pos c_32_10] at hf
        refine lv_tableIn (off := 460) (tgt := 492) hx hb dL_law_32 (by rw [c_32_10]; decide) (by rw [c_32_10]; decide) (by rw [c_32_10]; rfl) (by decide) ?_
        exact w_L_492 C0 hts hcs hK hDC hDM hAC hAM hCM hMC (p_L_18 xs L n) hk18 v3 σ τ hf _ _ _ hC hM hS (lv_sub hl [0, 1, 2, 3] rfl)
      rw [if_neg c_32_10] at hf
      by_cases c_32_11 : ((xs v3.toNatClampNeg) &&& 31) = 11
      · rw [if_pos c_32_11] at hf
        refine lv_tableIn (off := 493) (tgt := 525) hx hb dL_law_32 (by rw [c_32_11]; decide) (by rw [c_32_11]; decide) (by rw [c_32_11]; rfl) (by decide) ?_
        exact w_L_525 C0 hts hcs hK hDC hDM hAC hAM hCM hMC (p_L_18 xs L n) hk18 v3 σ τ hf _ _ _ hC hM hS (lv_sub hl [0, 1, 2, 3] rfl)
      rw [if_neg c_32_11] at hf
      by_cases c_32_12 : ((xs v3.toNatClampNeg) &&& 31) = 12
      · rw [if_pos c_32_12] at hf
        refine lv_tableIn (off := 536) (tgt := 568) hx hb dL_law_32 (by rw [c_32_12]; decide) (by rw [c_32_12]; decide) (by rw [c_32_12]; rfl) (by decide) ?_
        exact w_L_568 C0 hts hcs hK hDC hDM hAC hAM hCM hMC (p_L_18 xs L n) hk18 v3 σ τ hf _ _ _ hC hM hS (lv_sub hl [0, 1, 2, 3] rfl)
      rw [if_neg c_32_12] at hf
      by_cases c_32_13 : ((xs v3.toNatClampNeg) &&& 31) = 13
      · rw [if_pos c_32_13] at hf
        refine lv_tableIn (off := 579) (tgt := 611) hx hb dL_law_32 (by rw [c_32_13]; decide) (by rw [c_32_13]; decide) (by rw [c_32_13]; rfl) (by decide) ?_
        exact w_L_611 C0 hts hcs hK hDC hDM hAC hAM hCM hMC (p_L_18 xs L n) hk18 v3 σ τ hf _ _ _ hC hM hS (lv_sub hl [0, 1, 2, 3] rfl)
      rw [if_neg c_32_13] at hf
      by_cases c_32_14 : ((xs v3.toNatClampNeg) &&& 31) = 14
      · rw [if_pos c_32_14] at hf
        refine lv_tableIn (off := 612) (tgt := 644) hx hb dL_law_32 (by rw [c_32_14]; decide) (by rw [c_32_14]; decide) (by rw [c_32_14]; rfl) (by decide) ?_
        exact w_L_644 C0 hts hcs hK hDC hDM hAC hAM hCM hMC (p_L_18 xs L n) hk18 v3 σ τ hf _ _ _ hC hM hS (lv_sub hl [0, 1, 2, 3] rfl)
      rw [if_neg c_32_14] at hf
      by_cases c_32_15 : ((xs v3.toNatClampNeg) &&& 31) = 15
      · rw [if_pos c_32_15] at hf
        refine lv_tableIn (off := 645) (tgt := 677) hx hb dL_law_32 (by rw [c_32_15]; decide) (by rw [c_32_15]; decide) (by rw [c_32_15]; rfl) (by decide) ?_
        exact w_L_677 C0 hts hcs hK hDC hDM hAC hAM hCM hMC (p_L_18 xs L n) hk18 v3 σ τ hf _ _ _ hC hM hS (lv_sub hl [0, 1, 2, 3] rfl)
      rw [if_neg c_32_15] at hf
      by_cases c_32_16 : ((xs v3.toNatClampNeg) &&& 31) = 16
      · rw [if_pos c_32_16] at hf
        refine lv_tableIn (off := 708) (tgt := 740) hx hb dL_law_32 (by rw [c_32_16]; decide) (by rw [c_32_16]; decide) (by rw [c_32_16]; rfl) (by decide) ?_
        exact w_L_740 C0 hts hcs hK hDC hDM hAC hAM hCM hMC (p_L_18 xs L n) hk18 v3 σ τ hf _ _ _ hC hM hS (lv_sub hl [0, 1, 2, 3] rfl)
      rw [if_neg c_32_16] at hf
      refine lv_tableOut (tgt := 793) hx hb dL_law_32 (by have g0 := lv_neT c_32_0 (a := 0) (by decide); have g1 := lv_neT c_32_1 (a := 1) (by decide); have g2 := lv_neT c_32_2 (a := 2) (by decide); have g3 := lv_neT c_32_3 (a := 3) (by decide); have g4 := lv_neT c_32_4 (a := 4) (by decide); have g5 := lv_neT c_32_5 (a := 5) (by decide); have g6 := lv_neT c_32_6 (a := 6) (by decide); have g7 := lv_neT c_32_7 (a := 7) (by decide); have g8 := lv_neT c_32_8 (a := 8) (by decide); have g9 := lv_neT c_32_9 (a := 9) (by decide); have g10 := lv_neT c_32_10 (a := 10) (by decide); have g11 := lv_neT c_32_11 (a := 11) (by decide); have g12 := lv_neT c_32_12 (a := 12) (by decide); have g13 := lv_neT c_32_13 (a := 13) (by decide); have g14 := lv_neT c_32_14 (a := 14) (by decide); have g15 := lv_neT c_32_15 (a := 15) (by decide); have g16 := lv_neT c_32_16 (a := 16) (by decide); omega) (by decide) ?_
      exact w_L_793 C0 hts hcs hK hDC hDM hAC hAM hCM hMC (p_L_18 xs L n) hk18 v3 σ τ hf _ _ _ hC hM hS (lv_sub hl [0, 1, 2, 3] rfl)
