/-! the two worlds -/
def fC0 (ad : Nat → Nat) (σ : SS) : List Value := [.ref (ad 1), .ref (ad 2), .ref (ad 3), .ref (ad 4), .ref (ad 5), .ref (ad 6)]
def fC1 (ad : Nat → Nat) (σ : SS) : List Value := [.ref (ad 7), .ref (ad 8), .ref (ad 9), .ref (ad 10), .long (σ.2 1 4), .int (σ.1 1 5)]
def fC2 (ad : Nat → Nat) (σ : SS) : List Value := [.ref (ad 1), .ref (ad 11), .ref (ad 12), .ref (ad 13), .ref (ad 14), .ref (ad 15), .ref (ad 16), .long (σ.2 2 7), .long (σ.2 2 8), .long (σ.2 2 9), .int (σ.1 2 10)]
def fC3 (ad : Nat → Nat) (σ : SS) : List Value := [.ref (ad 1), .ref (ad 2), .ref (ad 17), .ref (ad 18)]
def fC4 (ad : Nat → Nat) (σ : SS) : List Value := [.ref (ad 19), .ref (ad 20), .ref (ad 21), .ref (ad 22), .ref (ad 23), .int (σ.1 4 5)]
def fC5 (ad : Nat → Nat) (σ : SS) : List Value := [.ref (ad 1), .ref (ad 2), .ref (ad 3), .ref (ad 4), .ref (ad 24), .ref (ad 25), .ref (ad 26), .ref (ad 27), .ref (ad 28), .long (σ.2 5 9), .long (σ.2 5 10), .long (σ.2 5 11), .int (σ.1 5 12)]
def fC6 (ad : Nat → Nat) (σ : SS) : List Value := [.ref (ad 1), .ref (ad 2), .ref (ad 3), .ref (ad 4), .ref (ad 29), .ref (ad 30), .ref (ad 31), .ref (ad 32), .long (σ.2 6 8), .long (σ.2 6 9), .long (σ.2 6 10), .int (σ.1 6 11), .int (σ.1 6 12), .int (σ.1 6 13), .int (σ.1 6 14)]
def wC (ad : Nat → Nat) (cI cJ cZ : ClassId) (σ : SS) : va_W := [(ad 0, .inr (6, fC0 ad σ)), (ad 1, .inr (5, fC1 ad σ)), (ad 2, .inr (3, fC2 ad σ)), (ad 3, .inr (0, fC3 ad σ)), (ad 4, .inr (4, fC4 ad σ)), (ad 5, .inr (2, fC5 ad σ)), (ad 6, .inr (1, fC6 ad σ)), (ad 7, .inl (cI, 16, .inl (σ.1 7))), (ad 8, .inl (cI, 16, .inl (σ.1 8))), (ad 9, .inl (cJ, 16, .inr (.inl (σ.2 9)))), (ad 10, .inl (cJ, 16, .inr (.inl (σ.2 10)))), (ad 11, .inl (cI, 48, .inl (σ.1 11))), (ad 12, .inl (cI, 48, .inl (σ.1 12))), (ad 13, .inl (cI, 160, .inl (σ.1 13))), (ad 14, .inl (cI, 16, .inl (σ.1 14))), (ad 15, .inl (cJ, 10, .inr (.inl (σ.2 15)))), (ad 16, .inl (cJ, 10, .inr (.inl (σ.2 16)))), (ad 17, .inl (cI, 160, .inl (σ.1 17))), (ad 18, .inl (cI, 160, .inl (σ.1 18))), (ad 19, .inl (cI, 160, .inl (σ.1 19))), (ad 20, .inl (cI, 160, .inl (σ.1 20))), (ad 21, .inl (cI, 160, .inl (σ.1 21))), (ad 22, .inl (cI, 48, .inl (σ.1 22))), (ad 23, .inl (cI, 1152, .inl (σ.1 23))), (ad 24, .inl (cJ, 4, .inr (.inl (σ.2 24)))), (ad 25, .inl (cJ, 160, .inr (.inl (σ.2 25)))), (ad 26, .inl (cJ, 48, .inr (.inl (σ.2 26)))), (ad 27, .inl (cJ, 48, .inr (.inl (σ.2 27)))), (ad 28, .inl (cJ, 48, .inr (.inl (σ.2 28)))), (ad 29, .inl (cI, 20, .inl (σ.1 29))), (ad 30, .inl (cI, 192, .inl (σ.1 30))), (ad 31, .inl (cI, 4, .inl (σ.1 31))), (ad 32, .inl (cJ, 160, .inr (.inl (σ.2 32))))]
def aC (ad : Nat → Nat) : Nat → Prop := fun q => ∃ k, k < 33 ∧ q = ad k
theorem wC_map (ad : Nat → Nat) (cI cJ cZ : ClassId) (σ : SS) : (wC ad cI cJ cZ σ).map (·.1) = (List.range 33).map ad := rfl
theorem wC_0 (ad : Nat → Nat) (cI cJ cZ : ClassId) (σ : SS) : (wC ad cI cJ cZ σ)[0]? = some (ad 0, .inr (6, fC0 ad σ)) := rfl
theorem wC_1 (ad : Nat → Nat) (cI cJ cZ : ClassId) (σ : SS) : (wC ad cI cJ cZ σ)[1]? = some (ad 1, .inr (5, fC1 ad σ)) := rfl
theorem wC_2 (ad : Nat → Nat) (cI cJ cZ : ClassId) (σ : SS) : (wC ad cI cJ cZ σ)[2]? = some (ad 2, .inr (3, fC2 ad σ)) := rfl
theorem wC_3 (ad : Nat → Nat) (cI cJ cZ : ClassId) (σ : SS) : (wC ad cI cJ cZ σ)[3]? = some (ad 3, .inr (0, fC3 ad σ)) := rfl
theorem wC_4 (ad : Nat → Nat) (cI cJ cZ : ClassId) (σ : SS) : (wC ad cI cJ cZ σ)[4]? = some (ad 4, .inr (4, fC4 ad σ)) := rfl
theorem wC_5 (ad : Nat → Nat) (cI cJ cZ : ClassId) (σ : SS) : (wC ad cI cJ cZ σ)[5]? = some (ad 5, .inr (2, fC5 ad σ)) := rfl
theorem wC_6 (ad : Nat → Nat) (cI cJ cZ : ClassId) (σ : SS) : (wC ad cI cJ cZ σ)[6]? = some (ad 6, .inr (1, fC6 ad σ)) := rfl
theorem wC_7 (ad : Nat → Nat) (cI cJ cZ : ClassId) (σ : SS) : (wC ad cI cJ cZ σ)[7]? = some (ad 7, .inl (cI, 16, .inl (σ.1 7))) := rfl
theorem wC_8 (ad : Nat → Nat) (cI cJ cZ : ClassId) (σ : SS) : (wC ad cI cJ cZ σ)[8]? = some (ad 8, .inl (cI, 16, .inl (σ.1 8))) := rfl
theorem wC_9 (ad : Nat → Nat) (cI cJ cZ : ClassId) (σ : SS) : (wC ad cI cJ cZ σ)[9]? = some (ad 9, .inl (cJ, 16, .inr (.inl (σ.2 9)))) := rfl
theorem wC_10 (ad : Nat → Nat) (cI cJ cZ : ClassId) (σ : SS) : (wC ad cI cJ cZ σ)[10]? = some (ad 10, .inl (cJ, 16, .inr (.inl (σ.2 10)))) := rfl
theorem wC_11 (ad : Nat → Nat) (cI cJ cZ : ClassId) (σ : SS) : (wC ad cI cJ cZ σ)[11]? = some (ad 11, .inl (cI, 48, .inl (σ.1 11))) := rfl
theorem wC_12 (ad : Nat → Nat) (cI cJ cZ : ClassId) (σ : SS) : (wC ad cI cJ cZ σ)[12]? = some (ad 12, .inl (cI, 48, .inl (σ.1 12))) := rfl
theorem wC_13 (ad : Nat → Nat) (cI cJ cZ : ClassId) (σ : SS) : (wC ad cI cJ cZ σ)[13]? = some (ad 13, .inl (cI, 160, .inl (σ.1 13))) := rfl
theorem wC_14 (ad : Nat → Nat) (cI cJ cZ : ClassId) (σ : SS) : (wC ad cI cJ cZ σ)[14]? = some (ad 14, .inl (cI, 16, .inl (σ.1 14))) := rfl
theorem wC_15 (ad : Nat → Nat) (cI cJ cZ : ClassId) (σ : SS) : (wC ad cI cJ cZ σ)[15]? = some (ad 15, .inl (cJ, 10, .inr (.inl (σ.2 15)))) := rfl
theorem wC_16 (ad : Nat → Nat) (cI cJ cZ : ClassId) (σ : SS) : (wC ad cI cJ cZ σ)[16]? = some (ad 16, .inl (cJ, 10, .inr (.inl (σ.2 16)))) := rfl
theorem wC_17 (ad : Nat → Nat) (cI cJ cZ : ClassId) (σ : SS) : (wC ad cI cJ cZ σ)[17]? = some (ad 17, .inl (cI, 160, .inl (σ.1 17))) := rfl
theorem wC_18 (ad : Nat → Nat) (cI cJ cZ : ClassId) (σ : SS) : (wC ad cI cJ cZ σ)[18]? = some (ad 18, .inl (cI, 160, .inl (σ.1 18))) := rfl
theorem wC_19 (ad : Nat → Nat) (cI cJ cZ : ClassId) (σ : SS) : (wC ad cI cJ cZ σ)[19]? = some (ad 19, .inl (cI, 160, .inl (σ.1 19))) := rfl
theorem wC_20 (ad : Nat → Nat) (cI cJ cZ : ClassId) (σ : SS) : (wC ad cI cJ cZ σ)[20]? = some (ad 20, .inl (cI, 160, .inl (σ.1 20))) := rfl
theorem wC_21 (ad : Nat → Nat) (cI cJ cZ : ClassId) (σ : SS) : (wC ad cI cJ cZ σ)[21]? = some (ad 21, .inl (cI, 160, .inl (σ.1 21))) := rfl
theorem wC_22 (ad : Nat → Nat) (cI cJ cZ : ClassId) (σ : SS) : (wC ad cI cJ cZ σ)[22]? = some (ad 22, .inl (cI, 48, .inl (σ.1 22))) := rfl
theorem wC_23 (ad : Nat → Nat) (cI cJ cZ : ClassId) (σ : SS) : (wC ad cI cJ cZ σ)[23]? = some (ad 23, .inl (cI, 1152, .inl (σ.1 23))) := rfl
theorem wC_24 (ad : Nat → Nat) (cI cJ cZ : ClassId) (σ : SS) : (wC ad cI cJ cZ σ)[24]? = some (ad 24, .inl (cJ, 4, .inr (.inl (σ.2 24)))) := rfl
theorem wC_25 (ad : Nat → Nat) (cI cJ cZ : ClassId) (σ : SS) : (wC ad cI cJ cZ σ)[25]? = some (ad 25, .inl (cJ, 160, .inr (.inl (σ.2 25)))) := rfl
theorem wC_26 (ad : Nat → Nat) (cI cJ cZ : ClassId) (σ : SS) : (wC ad cI cJ cZ σ)[26]? = some (ad 26, .inl (cJ, 48, .inr (.inl (σ.2 26)))) := rfl
theorem wC_27 (ad : Nat → Nat) (cI cJ cZ : ClassId) (σ : SS) : (wC ad cI cJ cZ σ)[27]? = some (ad 27, .inl (cJ, 48, .inr (.inl (σ.2 27)))) := rfl
theorem wC_28 (ad : Nat → Nat) (cI cJ cZ : ClassId) (σ : SS) : (wC ad cI cJ cZ σ)[28]? = some (ad 28, .inl (cJ, 48, .inr (.inl (σ.2 28)))) := rfl
theorem wC_29 (ad : Nat → Nat) (cI cJ cZ : ClassId) (σ : SS) : (wC ad cI cJ cZ σ)[29]? = some (ad 29, .inl (cI, 20, .inl (σ.1 29))) := rfl
theorem wC_30 (ad : Nat → Nat) (cI cJ cZ : ClassId) (σ : SS) : (wC ad cI cJ cZ σ)[30]? = some (ad 30, .inl (cI, 192, .inl (σ.1 30))) := rfl
theorem wC_31 (ad : Nat → Nat) (cI cJ cZ : ClassId) (σ : SS) : (wC ad cI cJ cZ σ)[31]? = some (ad 31, .inl (cI, 4, .inl (σ.1 31))) := rfl
theorem wC_32 (ad : Nat → Nat) (cI cJ cZ : ClassId) (σ : SS) : (wC ad cI cJ cZ σ)[32]? = some (ad 32, .inl (cJ, 160, .inr (.inl (σ.2 32)))) := rfl
theorem fC_0_0 (ad : Nat → Nat) (σ : SS) : (fC0 ad σ)[0]? = some (.ref (ad 1)) := rfl
theorem fC_0_1 (ad : Nat → Nat) (σ : SS) : (fC0 ad σ)[1]? = some (.ref (ad 2)) := rfl
theorem fC_0_2 (ad : Nat → Nat) (σ : SS) : (fC0 ad σ)[2]? = some (.ref (ad 3)) := rfl
theorem fC_0_3 (ad : Nat → Nat) (σ : SS) : (fC0 ad σ)[3]? = some (.ref (ad 4)) := rfl
theorem fC_0_4 (ad : Nat → Nat) (σ : SS) : (fC0 ad σ)[4]? = some (.ref (ad 5)) := rfl
theorem fC_0_5 (ad : Nat → Nat) (σ : SS) : (fC0 ad σ)[5]? = some (.ref (ad 6)) := rfl
theorem fC_1_0 (ad : Nat → Nat) (σ : SS) : (fC1 ad σ)[0]? = some (.ref (ad 7)) := rfl
theorem fC_1_1 (ad : Nat → Nat) (σ : SS) : (fC1 ad σ)[1]? = some (.ref (ad 8)) := rfl
theorem fC_1_2 (ad : Nat → Nat) (σ : SS) : (fC1 ad σ)[2]? = some (.ref (ad 9)) := rfl
theorem fC_1_3 (ad : Nat → Nat) (σ : SS) : (fC1 ad σ)[3]? = some (.ref (ad 10)) := rfl
theorem fC_1_4 (ad : Nat → Nat) (σ : SS) : (fC1 ad σ)[4]? = some (.long (σ.2 1 4)) := rfl
theorem wC_p1_4 {D : va_G} {ad : Nat → Nat} {cI cJ cZ : ClassId} {σ : SS} {H : Heap} {x : Int64} (h : va_P D vwCl ((wC ad cI cJ cZ σ).set 1 (ad 1, .inr (5, (fC1 ad σ).set 4 (.long x)))) H) : va_P D vwCl (wC ad cI cJ cZ (sL σ 1 4 x)) H := h
theorem fC_1_5 (ad : Nat → Nat) (σ : SS) : (fC1 ad σ)[5]? = some (.int (σ.1 1 5)) := rfl
theorem wC_p1_5 {D : va_G} {ad : Nat → Nat} {cI cJ cZ : ClassId} {σ : SS} {H : Heap} {x : Int32} (h : va_P D vwCl ((wC ad cI cJ cZ σ).set 1 (ad 1, .inr (5, (fC1 ad σ).set 5 (.int x)))) H) : va_P D vwCl (wC ad cI cJ cZ (sI σ 1 5 x)) H := h
theorem fC_2_0 (ad : Nat → Nat) (σ : SS) : (fC2 ad σ)[0]? = some (.ref (ad 1)) := rfl
theorem fC_2_1 (ad : Nat → Nat) (σ : SS) : (fC2 ad σ)[1]? = some (.ref (ad 11)) := rfl
theorem fC_2_2 (ad : Nat → Nat) (σ : SS) : (fC2 ad σ)[2]? = some (.ref (ad 12)) := rfl
theorem fC_2_3 (ad : Nat → Nat) (σ : SS) : (fC2 ad σ)[3]? = some (.ref (ad 13)) := rfl
theorem fC_2_4 (ad : Nat → Nat) (σ : SS) : (fC2 ad σ)[4]? = some (.ref (ad 14)) := rfl
theorem fC_2_5 (ad : Nat → Nat) (σ : SS) : (fC2 ad σ)[5]? = some (.ref (ad 15)) := rfl
theorem fC_2_6 (ad : Nat → Nat) (σ : SS) : (fC2 ad σ)[6]? = some (.ref (ad 16)) := rfl
theorem fC_2_7 (ad : Nat → Nat) (σ : SS) : (fC2 ad σ)[7]? = some (.long (σ.2 2 7)) := rfl
theorem wC_p2_7 {D : va_G} {ad : Nat → Nat} {cI cJ cZ : ClassId} {σ : SS} {H : Heap} {x : Int64} (h : va_P D vwCl ((wC ad cI cJ cZ σ).set 2 (ad 2, .inr (3, (fC2 ad σ).set 7 (.long x)))) H) : va_P D vwCl (wC ad cI cJ cZ (sL σ 2 7 x)) H := h
theorem fC_2_8 (ad : Nat → Nat) (σ : SS) : (fC2 ad σ)[8]? = some (.long (σ.2 2 8)) := rfl
theorem wC_p2_8 {D : va_G} {ad : Nat → Nat} {cI cJ cZ : ClassId} {σ : SS} {H : Heap} {x : Int64} (h : va_P D vwCl ((wC ad cI cJ cZ σ).set 2 (ad 2, .inr (3, (fC2 ad σ).set 8 (.long x)))) H) : va_P D vwCl (wC ad cI cJ cZ (sL σ 2 8 x)) H := h
theorem fC_2_9 (ad : Nat → Nat) (σ : SS) : (fC2 ad σ)[9]? = some (.long (σ.2 2 9)) := rfl
theorem wC_p2_9 {D : va_G} {ad : Nat → Nat} {cI cJ cZ : ClassId} {σ : SS} {H : Heap} {x : Int64} (h : va_P D vwCl ((wC ad cI cJ cZ σ).set 2 (ad 2, .inr (3, (fC2 ad σ).set 9 (.long x)))) H) : va_P D vwCl (wC ad cI cJ cZ (sL σ 2 9 x)) H := h
theorem fC_2_10 (ad : Nat → Nat) (σ : SS) : (fC2 ad σ)[10]? = some (.int (σ.1 2 10)) := rfl
theorem wC_p2_10 {D : va_G} {ad : Nat → Nat} {cI cJ cZ : ClassId} {σ : SS} {H : Heap} {x : Int32} (h : va_P D vwCl ((wC ad cI cJ cZ σ).set 2 (ad 2, .inr (3, (fC2 ad σ).set 10 (.int x)))) H) : va_P D vwCl (wC ad cI cJ cZ (sI σ 2 10 x)) H := h
theorem fC_3_0 (ad : Nat → Nat) (σ : SS) : (fC3 ad σ)[0]? = some (.ref (ad 1)) := rfl
theorem fC_3_1 (ad : Nat → Nat) (σ : SS) : (fC3 ad σ)[1]? = some (.ref (ad 2)) := rfl
theorem fC_3_2 (ad : Nat → Nat) (σ : SS) : (fC3 ad σ)[2]? = some (.ref (ad 17)) := rfl
theorem fC_3_3 (ad : Nat → Nat) (σ : SS) : (fC3 ad σ)[3]? = some (.ref (ad 18)) := rfl
theorem fC_4_0 (ad : Nat → Nat) (σ : SS) : (fC4 ad σ)[0]? = some (.ref (ad 19)) := rfl
theorem fC_4_1 (ad : Nat → Nat) (σ : SS) : (fC4 ad σ)[1]? = some (.ref (ad 20)) := rfl
theorem fC_4_2 (ad : Nat → Nat) (σ : SS) : (fC4 ad σ)[2]? = some (.ref (ad 21)) := rfl
theorem fC_4_3 (ad : Nat → Nat) (σ : SS) : (fC4 ad σ)[3]? = some (.ref (ad 22)) := rfl
theorem fC_4_4 (ad : Nat → Nat) (σ : SS) : (fC4 ad σ)[4]? = some (.ref (ad 23)) := rfl
theorem fC_4_5 (ad : Nat → Nat) (σ : SS) : (fC4 ad σ)[5]? = some (.int (σ.1 4 5)) := rfl
theorem wC_p4_5 {D : va_G} {ad : Nat → Nat} {cI cJ cZ : ClassId} {σ : SS} {H : Heap} {x : Int32} (h : va_P D vwCl ((wC ad cI cJ cZ σ).set 4 (ad 4, .inr (4, (fC4 ad σ).set 5 (.int x)))) H) : va_P D vwCl (wC ad cI cJ cZ (sI σ 4 5 x)) H := h
theorem fC_5_0 (ad : Nat → Nat) (σ : SS) : (fC5 ad σ)[0]? = some (.ref (ad 1)) := rfl
theorem fC_5_1 (ad : Nat → Nat) (σ : SS) : (fC5 ad σ)[1]? = some (.ref (ad 2)) := rfl
theorem fC_5_2 (ad : Nat → Nat) (σ : SS) : (fC5 ad σ)[2]? = some (.ref (ad 3)) := rfl
theorem fC_5_3 (ad : Nat → Nat) (σ : SS) : (fC5 ad σ)[3]? = some (.ref (ad 4)) := rfl
theorem fC_5_4 (ad : Nat → Nat) (σ : SS) : (fC5 ad σ)[4]? = some (.ref (ad 24)) := rfl
theorem fC_5_5 (ad : Nat → Nat) (σ : SS) : (fC5 ad σ)[5]? = some (.ref (ad 25)) := rfl
theorem fC_5_6 (ad : Nat → Nat) (σ : SS) : (fC5 ad σ)[6]? = some (.ref (ad 26)) := rfl
theorem fC_5_7 (ad : Nat → Nat) (σ : SS) : (fC5 ad σ)[7]? = some (.ref (ad 27)) := rfl
theorem fC_5_8 (ad : Nat → Nat) (σ : SS) : (fC5 ad σ)[8]? = some (.ref (ad 28)) := rfl
theorem fC_5_9 (ad : Nat → Nat) (σ : SS) : (fC5 ad σ)[9]? = some (.long (σ.2 5 9)) := rfl
theorem wC_p5_9 {D : va_G} {ad : Nat → Nat} {cI cJ cZ : ClassId} {σ : SS} {H : Heap} {x : Int64} (h : va_P D vwCl ((wC ad cI cJ cZ σ).set 5 (ad 5, .inr (2, (fC5 ad σ).set 9 (.long x)))) H) : va_P D vwCl (wC ad cI cJ cZ (sL σ 5 9 x)) H := h
theorem fC_5_10 (ad : Nat → Nat) (σ : SS) : (fC5 ad σ)[10]? = some (.long (σ.2 5 10)) := rfl
theorem wC_p5_10 {D : va_G} {ad : Nat → Nat} {cI cJ cZ : ClassId} {σ : SS} {H : Heap} {x : Int64} (h : va_P D vwCl ((wC ad cI cJ cZ σ).set 5 (ad 5, .inr (2, (fC5 ad σ).set 10 (.long x)))) H) : va_P D vwCl (wC ad cI cJ cZ (sL σ 5 10 x)) H := h
theorem fC_5_11 (ad : Nat → Nat) (σ : SS) : (fC5 ad σ)[11]? = some (.long (σ.2 5 11)) := rfl
theorem wC_p5_11 {D : va_G} {ad : Nat → Nat} {cI cJ cZ : ClassId} {σ : SS} {H : Heap} {x : Int64} (h : va_P D vwCl ((wC ad cI cJ cZ σ).set 5 (ad 5, .inr (2, (fC5 ad σ).set 11 (.long x)))) H) : va_P D vwCl (wC ad cI cJ cZ (sL σ 5 11 x)) H := h
theorem fC_5_12 (ad : Nat → Nat) (σ : SS) : (fC5 ad σ)[12]? = some (.int (σ.1 5 12)) := rfl
theorem wC_p5_12 {D : va_G} {ad : Nat → Nat} {cI cJ cZ : ClassId} {σ : SS} {H : Heap} {x : Int32} (h : va_P D vwCl ((wC ad cI cJ cZ σ).set 5 (ad 5, .inr (2, (fC5 ad σ).set 12 (.int x)))) H) : va_P D vwCl (wC ad cI cJ cZ (sI σ 5 12 x)) H := h
theorem fC_6_0 (ad : Nat → Nat) (σ : SS) : (fC6 ad σ)[0]? = some (.ref (ad 1)) := rfl
theorem fC_6_1 (ad : Nat → Nat) (σ : SS) : (fC6 ad σ)[1]? = some (.ref (ad 2)) := rfl
theorem fC_6_2 (ad : Nat → Nat) (σ : SS) : (fC6 ad σ)[2]? = some (.ref (ad 3)) := rfl
theorem fC_6_3 (ad : Nat → Nat) (σ : SS) : (fC6 ad σ)[3]? = some (.ref (ad 4)) := rfl
theorem fC_6_4 (ad : Nat → Nat) (σ : SS) : (fC6 ad σ)[4]? = some (.ref (ad 29)) := rfl
theorem fC_6_5 (ad : Nat → Nat) (σ : SS) : (fC6 ad σ)[5]? = some (.ref (ad 30)) := rfl
theorem fC_6_6 (ad : Nat → Nat) (σ : SS) : (fC6 ad σ)[6]? = some (.ref (ad 31)) := rfl
theorem fC_6_7 (ad : Nat → Nat) (σ : SS) : (fC6 ad σ)[7]? = some (.ref (ad 32)) := rfl
theorem fC_6_8 (ad : Nat → Nat) (σ : SS) : (fC6 ad σ)[8]? = some (.long (σ.2 6 8)) := rfl
theorem wC_p6_8 {D : va_G} {ad : Nat → Nat} {cI cJ cZ : ClassId} {σ : SS} {H : Heap} {x : Int64} (h : va_P D vwCl ((wC ad cI cJ cZ σ).set 6 (ad 6, .inr (1, (fC6 ad σ).set 8 (.long x)))) H) : va_P D vwCl (wC ad cI cJ cZ (sL σ 6 8 x)) H := h
theorem fC_6_9 (ad : Nat → Nat) (σ : SS) : (fC6 ad σ)[9]? = some (.long (σ.2 6 9)) := rfl
theorem wC_p6_9 {D : va_G} {ad : Nat → Nat} {cI cJ cZ : ClassId} {σ : SS} {H : Heap} {x : Int64} (h : va_P D vwCl ((wC ad cI cJ cZ σ).set 6 (ad 6, .inr (1, (fC6 ad σ).set 9 (.long x)))) H) : va_P D vwCl (wC ad cI cJ cZ (sL σ 6 9 x)) H := h
theorem fC_6_10 (ad : Nat → Nat) (σ : SS) : (fC6 ad σ)[10]? = some (.long (σ.2 6 10)) := rfl
theorem wC_p6_10 {D : va_G} {ad : Nat → Nat} {cI cJ cZ : ClassId} {σ : SS} {H : Heap} {x : Int64} (h : va_P D vwCl ((wC ad cI cJ cZ σ).set 6 (ad 6, .inr (1, (fC6 ad σ).set 10 (.long x)))) H) : va_P D vwCl (wC ad cI cJ cZ (sL σ 6 10 x)) H := h
theorem fC_6_11 (ad : Nat → Nat) (σ : SS) : (fC6 ad σ)[11]? = some (.int (σ.1 6 11)) := rfl
theorem wC_p6_11 {D : va_G} {ad : Nat → Nat} {cI cJ cZ : ClassId} {σ : SS} {H : Heap} {x : Int32} (h : va_P D vwCl ((wC ad cI cJ cZ σ).set 6 (ad 6, .inr (1, (fC6 ad σ).set 11 (.int x)))) H) : va_P D vwCl (wC ad cI cJ cZ (sI σ 6 11 x)) H := h
theorem fC_6_12 (ad : Nat → Nat) (σ : SS) : (fC6 ad σ)[12]? = some (.int (σ.1 6 12)) := rfl
theorem wC_p6_12 {D : va_G} {ad : Nat → Nat} {cI cJ cZ : ClassId} {σ : SS} {H : Heap} {x : Int32} (h : va_P D vwCl ((wC ad cI cJ cZ σ).set 6 (ad 6, .inr (1, (fC6 ad σ).set 12 (.int x)))) H) : va_P D vwCl (wC ad cI cJ cZ (sI σ 6 12 x)) H := h
theorem fC_6_13 (ad : Nat → Nat) (σ : SS) : (fC6 ad σ)[13]? = some (.int (σ.1 6 13)) := rfl
theorem wC_p6_13 {D : va_G} {ad : Nat → Nat} {cI cJ cZ : ClassId} {σ : SS} {H : Heap} {x : Int32} (h : va_P D vwCl ((wC ad cI cJ cZ σ).set 6 (ad 6, .inr (1, (fC6 ad σ).set 13 (.int x)))) H) : va_P D vwCl (wC ad cI cJ cZ (sI σ 6 13 x)) H := h
theorem fC_6_14 (ad : Nat → Nat) (σ : SS) : (fC6 ad σ)[14]? = some (.int (σ.1 6 14)) := rfl
theorem wC_p6_14 {D : va_G} {ad : Nat → Nat} {cI cJ cZ : ClassId} {σ : SS} {H : Heap} {x : Int32} (h : va_P D vwCl ((wC ad cI cJ cZ σ).set 6 (ad 6, .inr (1, (fC6 ad σ).set 14 (.int x)))) H) : va_P D vwCl (wC ad cI cJ cZ (sI σ 6 14 x)) H := h
theorem wC_s7 {D : va_G} {ad : Nat → Nat} {cI cJ cZ : ClassId} {σ : SS} {H : Heap} {j : Nat} {x : Int32} (h : va_P D vwCl ((wC ad cI cJ cZ σ).set 7 (ad 7, .inl (cI, 16, .inl (upd (σ.1 7) j x)))) H) : va_P D vwCl (wC ad cI cJ cZ (sI σ 7 j x)) H := h
theorem wC_s8 {D : va_G} {ad : Nat → Nat} {cI cJ cZ : ClassId} {σ : SS} {H : Heap} {j : Nat} {x : Int32} (h : va_P D vwCl ((wC ad cI cJ cZ σ).set 8 (ad 8, .inl (cI, 16, .inl (upd (σ.1 8) j x)))) H) : va_P D vwCl (wC ad cI cJ cZ (sI σ 8 j x)) H := h
theorem wC_s9 {D : va_G} {ad : Nat → Nat} {cI cJ cZ : ClassId} {σ : SS} {H : Heap} {j : Nat} {x : Int64} (h : va_P D vwCl ((wC ad cI cJ cZ σ).set 9 (ad 9, .inl (cJ, 16, .inr (.inl (vp_updL (σ.2 9) j x))))) H) : va_P D vwCl (wC ad cI cJ cZ (sL σ 9 j x)) H := h
theorem wC_s10 {D : va_G} {ad : Nat → Nat} {cI cJ cZ : ClassId} {σ : SS} {H : Heap} {j : Nat} {x : Int64} (h : va_P D vwCl ((wC ad cI cJ cZ σ).set 10 (ad 10, .inl (cJ, 16, .inr (.inl (vp_updL (σ.2 10) j x))))) H) : va_P D vwCl (wC ad cI cJ cZ (sL σ 10 j x)) H := h
theorem wC_s11 {D : va_G} {ad : Nat → Nat} {cI cJ cZ : ClassId} {σ : SS} {H : Heap} {j : Nat} {x : Int32} (h : va_P D vwCl ((wC ad cI cJ cZ σ).set 11 (ad 11, .inl (cI, 48, .inl (upd (σ.1 11) j x)))) H) : va_P D vwCl (wC ad cI cJ cZ (sI σ 11 j x)) H := h
theorem wC_s12 {D : va_G} {ad : Nat → Nat} {cI cJ cZ : ClassId} {σ : SS} {H : Heap} {j : Nat} {x : Int32} (h : va_P D vwCl ((wC ad cI cJ cZ σ).set 12 (ad 12, .inl (cI, 48, .inl (upd (σ.1 12) j x)))) H) : va_P D vwCl (wC ad cI cJ cZ (sI σ 12 j x)) H := h
theorem wC_s13 {D : va_G} {ad : Nat → Nat} {cI cJ cZ : ClassId} {σ : SS} {H : Heap} {j : Nat} {x : Int32} (h : va_P D vwCl ((wC ad cI cJ cZ σ).set 13 (ad 13, .inl (cI, 160, .inl (upd (σ.1 13) j x)))) H) : va_P D vwCl (wC ad cI cJ cZ (sI σ 13 j x)) H := h
theorem wC_s14 {D : va_G} {ad : Nat → Nat} {cI cJ cZ : ClassId} {σ : SS} {H : Heap} {j : Nat} {x : Int32} (h : va_P D vwCl ((wC ad cI cJ cZ σ).set 14 (ad 14, .inl (cI, 16, .inl (upd (σ.1 14) j x)))) H) : va_P D vwCl (wC ad cI cJ cZ (sI σ 14 j x)) H := h
theorem wC_s15 {D : va_G} {ad : Nat → Nat} {cI cJ cZ : ClassId} {σ : SS} {H : Heap} {j : Nat} {x : Int64} (h : va_P D vwCl ((wC ad cI cJ cZ σ).set 15 (ad 15, .inl (cJ, 10, .inr (.inl (vp_updL (σ.2 15) j x))))) H) : va_P D vwCl (wC ad cI cJ cZ (sL σ 15 j x)) H := h
theorem wC_s16 {D : va_G} {ad : Nat → Nat} {cI cJ cZ : ClassId} {σ : SS} {H : Heap} {j : Nat} {x : Int64} (h : va_P D vwCl ((wC ad cI cJ cZ σ).set 16 (ad 16, .inl (cJ, 10, .inr (.inl (vp_updL (σ.2 16) j x))))) H) : va_P D vwCl (wC ad cI cJ cZ (sL σ 16 j x)) H := h
theorem wC_s17 {D : va_G} {ad : Nat → Nat} {cI cJ cZ : ClassId} {σ : SS} {H : Heap} {j : Nat} {x : Int32} (h : va_P D vwCl ((wC ad cI cJ cZ σ).set 17 (ad 17, .inl (cI, 160, .inl (upd (σ.1 17) j x)))) H) : va_P D vwCl (wC ad cI cJ cZ (sI σ 17 j x)) H := h
theorem wC_s18 {D : va_G} {ad : Nat → Nat} {cI cJ cZ : ClassId} {σ : SS} {H : Heap} {j : Nat} {x : Int32} (h : va_P D vwCl ((wC ad cI cJ cZ σ).set 18 (ad 18, .inl (cI, 160, .inl (upd (σ.1 18) j x)))) H) : va_P D vwCl (wC ad cI cJ cZ (sI σ 18 j x)) H := h
theorem wC_s19 {D : va_G} {ad : Nat → Nat} {cI cJ cZ : ClassId} {σ : SS} {H : Heap} {j : Nat} {x : Int32} (h : va_P D vwCl ((wC ad cI cJ cZ σ).set 19 (ad 19, .inl (cI, 160, .inl (upd (σ.1 19) j x)))) H) : va_P D vwCl (wC ad cI cJ cZ (sI σ 19 j x)) H := h
theorem wC_s20 {D : va_G} {ad : Nat → Nat} {cI cJ cZ : ClassId} {σ : SS} {H : Heap} {j : Nat} {x : Int32} (h : va_P D vwCl ((wC ad cI cJ cZ σ).set 20 (ad 20, .inl (cI, 160, .inl (upd (σ.1 20) j x)))) H) : va_P D vwCl (wC ad cI cJ cZ (sI σ 20 j x)) H := h
theorem wC_s21 {D : va_G} {ad : Nat → Nat} {cI cJ cZ : ClassId} {σ : SS} {H : Heap} {j : Nat} {x : Int32} (h : va_P D vwCl ((wC ad cI cJ cZ σ).set 21 (ad 21, .inl (cI, 160, .inl (upd (σ.1 21) j x)))) H) : va_P D vwCl (wC ad cI cJ cZ (sI σ 21 j x)) H := h
theorem wC_s22 {D : va_G} {ad : Nat → Nat} {cI cJ cZ : ClassId} {σ : SS} {H : Heap} {j : Nat} {x : Int32} (h : va_P D vwCl ((wC ad cI cJ cZ σ).set 22 (ad 22, .inl (cI, 48, .inl (upd (σ.1 22) j x)))) H) : va_P D vwCl (wC ad cI cJ cZ (sI σ 22 j x)) H := h
theorem wC_s23 {D : va_G} {ad : Nat → Nat} {cI cJ cZ : ClassId} {σ : SS} {H : Heap} {j : Nat} {x : Int32} (h : va_P D vwCl ((wC ad cI cJ cZ σ).set 23 (ad 23, .inl (cI, 1152, .inl (upd (σ.1 23) j x)))) H) : va_P D vwCl (wC ad cI cJ cZ (sI σ 23 j x)) H := h
theorem wC_s24 {D : va_G} {ad : Nat → Nat} {cI cJ cZ : ClassId} {σ : SS} {H : Heap} {j : Nat} {x : Int64} (h : va_P D vwCl ((wC ad cI cJ cZ σ).set 24 (ad 24, .inl (cJ, 4, .inr (.inl (vp_updL (σ.2 24) j x))))) H) : va_P D vwCl (wC ad cI cJ cZ (sL σ 24 j x)) H := h
theorem wC_s25 {D : va_G} {ad : Nat → Nat} {cI cJ cZ : ClassId} {σ : SS} {H : Heap} {j : Nat} {x : Int64} (h : va_P D vwCl ((wC ad cI cJ cZ σ).set 25 (ad 25, .inl (cJ, 160, .inr (.inl (vp_updL (σ.2 25) j x))))) H) : va_P D vwCl (wC ad cI cJ cZ (sL σ 25 j x)) H := h
theorem wC_s26 {D : va_G} {ad : Nat → Nat} {cI cJ cZ : ClassId} {σ : SS} {H : Heap} {j : Nat} {x : Int64} (h : va_P D vwCl ((wC ad cI cJ cZ σ).set 26 (ad 26, .inl (cJ, 48, .inr (.inl (vp_updL (σ.2 26) j x))))) H) : va_P D vwCl (wC ad cI cJ cZ (sL σ 26 j x)) H := h
theorem wC_s27 {D : va_G} {ad : Nat → Nat} {cI cJ cZ : ClassId} {σ : SS} {H : Heap} {j : Nat} {x : Int64} (h : va_P D vwCl ((wC ad cI cJ cZ σ).set 27 (ad 27, .inl (cJ, 48, .inr (.inl (vp_updL (σ.2 27) j x))))) H) : va_P D vwCl (wC ad cI cJ cZ (sL σ 27 j x)) H := h
theorem wC_s28 {D : va_G} {ad : Nat → Nat} {cI cJ cZ : ClassId} {σ : SS} {H : Heap} {j : Nat} {x : Int64} (h : va_P D vwCl ((wC ad cI cJ cZ σ).set 28 (ad 28, .inl (cJ, 48, .inr (.inl (vp_updL (σ.2 28) j x))))) H) : va_P D vwCl (wC ad cI cJ cZ (sL σ 28 j x)) H := h
theorem wC_s29 {D : va_G} {ad : Nat → Nat} {cI cJ cZ : ClassId} {σ : SS} {H : Heap} {j : Nat} {x : Int32} (h : va_P D vwCl ((wC ad cI cJ cZ σ).set 29 (ad 29, .inl (cI, 20, .inl (upd (σ.1 29) j x)))) H) : va_P D vwCl (wC ad cI cJ cZ (sI σ 29 j x)) H := h
theorem wC_s30 {D : va_G} {ad : Nat → Nat} {cI cJ cZ : ClassId} {σ : SS} {H : Heap} {j : Nat} {x : Int32} (h : va_P D vwCl ((wC ad cI cJ cZ σ).set 30 (ad 30, .inl (cI, 192, .inl (upd (σ.1 30) j x)))) H) : va_P D vwCl (wC ad cI cJ cZ (sI σ 30 j x)) H := h
theorem wC_s31 {D : va_G} {ad : Nat → Nat} {cI cJ cZ : ClassId} {σ : SS} {H : Heap} {j : Nat} {x : Int32} (h : va_P D vwCl ((wC ad cI cJ cZ σ).set 31 (ad 31, .inl (cI, 4, .inl (upd (σ.1 31) j x)))) H) : va_P D vwCl (wC ad cI cJ cZ (sI σ 31 j x)) H := h
theorem wC_s32 {D : va_G} {ad : Nat → Nat} {cI cJ cZ : ClassId} {σ : SS} {H : Heap} {j : Nat} {x : Int64} (h : va_P D vwCl ((wC ad cI cJ cZ σ).set 32 (ad 32, .inl (cJ, 160, .inr (.inl (vp_updL (σ.2 32) j x))))) H) : va_P D vwCl (wC ad cI cJ cZ (sL σ 32 j x)) H := h
def fM0 (ad : Nat → Nat) (σ : SS) : List Value := [.int (σ.1 0 0), .ref (ad 1), .ref (ad 2), .ref (ad 3), .ref (ad 4), .int (σ.1 0 5), .ref (ad 5), .ref (ad 6), .ref (ad 7), .ref (ad 8), .ref (ad 9), .ref (ad 10), .int (σ.1 0 12), .ref (ad 11), .ref (ad 12), .ref (ad 13), .int (σ.1 0 16), .int (σ.1 0 17), .ref (ad 14), .ref (ad 15), .ref (ad 16), .ref (ad 17), .ref (ad 18), .ref (ad 19), .ref (ad 20), .ref (ad 21), .int (σ.1 0 26), .ref (ad 22), .ref (ad 23), .ref (ad 24), .ref (ad 25), .ref (ad 26), .ref (ad 27), .ref (ad 28), .ref (ad 29), .ref (ad 30), .ref (ad 31), .int (σ.1 0 37), .long (σ.2 0 38), .int (σ.1 0 39), .int (σ.1 0 40), .int (σ.1 0 41), .int (σ.1 0 42), .int (σ.1 0 43), .ref (ad 32), .ref (ad 33), .ref (ad 34), .int (σ.1 0 47), .ref (ad 35), .ref (ad 36)]
def wM (ad : Nat → Nat) (cI cJ cZ : ClassId) (σ : SS) : va_W := [(ad 0, .inr (7, fM0 ad σ)), (ad 1, .inl (cI, 16, .inl (σ.1 1))), (ad 2, .inl (cI, 16, .inl (σ.1 2))), (ad 3, .inl (cI, 16, .inl (σ.1 3))), (ad 4, .inl (cI, 48, .inl (σ.1 4))), (ad 5, .inl (cI, 48, .inl (σ.1 5))), (ad 6, .inl (cI, 48, .inl (σ.1 6))), (ad 7, .inl (cI, 48, .inl (σ.1 7))), (ad 8, .inl (cZ, 48, .inl (σ.1 8))), (ad 9, .inl (cI, 48, .inl (σ.1 9))), (ad 10, .inl (cI, 1152, .inl (σ.1 10))), (ad 11, .inl (cI, 160, .inl (σ.1 11))), (ad 12, .inl (cI, 160, .inl (σ.1 12))), (ad 13, .inl (cI, 160, .inl (σ.1 13))), (ad 14, .inl (cZ, 48, .inl (σ.1 14))), (ad 15, .inl (cZ, 16, .inl (σ.1 15))), (ad 16, .inl (cZ, 16, .inl (σ.1 16))), (ad 17, .inl (cZ, 192, .inl (σ.1 17))), (ad 18, .inl (cZ, 7680, .inl (σ.1 18))), (ad 19, .inl (cI, 640, .inl (σ.1 19))), (ad 20, .inl (cZ, 16, .inl (σ.1 20))), (ad 21, .inl (cZ, 256, .inl (σ.1 21))), (ad 22, .inl (cZ, 48, .inl (σ.1 22))), (ad 23, .inl (cZ, 16, .inl (σ.1 23))), (ad 24, .inl (cZ, 16, .inl (σ.1 24))), (ad 25, .inl (cZ, 2304, .inl (σ.1 25))), (ad 26, .inl (cZ, 2304, .inl (σ.1 26))), (ad 27, .inl (cI, 48, .inl (σ.1 27))), (ad 28, .inl (cI, 1000, .inl (σ.1 28))), (ad 29, .inl (cI, 1000, .inl (σ.1 29))), (ad 30, .inl (cI, 1000, .inl (σ.1 30))), (ad 31, .inl (cI, 1000, .inl (σ.1 31))), (ad 32, .inl (cZ, 48, .inl (σ.1 32))), (ad 33, .inl (cZ, 16, .inl (σ.1 33))), (ad 34, .inl (cI, 20, .inl (σ.1 34))), (ad 35, .inl (cI, 192, .inl (σ.1 35))), (ad 36, .inl (cI, 4, .inl (σ.1 36)))]
def aM (ad : Nat → Nat) : Nat → Prop := fun q => ∃ k, k < 37 ∧ q = ad k
theorem wM_map (ad : Nat → Nat) (cI cJ cZ : ClassId) (σ : SS) : (wM ad cI cJ cZ σ).map (·.1) = (List.range 37).map ad := rfl
theorem wM_0 (ad : Nat → Nat) (cI cJ cZ : ClassId) (σ : SS) : (wM ad cI cJ cZ σ)[0]? = some (ad 0, .inr (7, fM0 ad σ)) := rfl
theorem wM_1 (ad : Nat → Nat) (cI cJ cZ : ClassId) (σ : SS) : (wM ad cI cJ cZ σ)[1]? = some (ad 1, .inl (cI, 16, .inl (σ.1 1))) := rfl
theorem wM_2 (ad : Nat → Nat) (cI cJ cZ : ClassId) (σ : SS) : (wM ad cI cJ cZ σ)[2]? = some (ad 2, .inl (cI, 16, .inl (σ.1 2))) := rfl
theorem wM_3 (ad : Nat → Nat) (cI cJ cZ : ClassId) (σ : SS) : (wM ad cI cJ cZ σ)[3]? = some (ad 3, .inl (cI, 16, .inl (σ.1 3))) := rfl
theorem wM_4 (ad : Nat → Nat) (cI cJ cZ : ClassId) (σ : SS) : (wM ad cI cJ cZ σ)[4]? = some (ad 4, .inl (cI, 48, .inl (σ.1 4))) := rfl
theorem wM_5 (ad : Nat → Nat) (cI cJ cZ : ClassId) (σ : SS) : (wM ad cI cJ cZ σ)[5]? = some (ad 5, .inl (cI, 48, .inl (σ.1 5))) := rfl
theorem wM_6 (ad : Nat → Nat) (cI cJ cZ : ClassId) (σ : SS) : (wM ad cI cJ cZ σ)[6]? = some (ad 6, .inl (cI, 48, .inl (σ.1 6))) := rfl
theorem wM_7 (ad : Nat → Nat) (cI cJ cZ : ClassId) (σ : SS) : (wM ad cI cJ cZ σ)[7]? = some (ad 7, .inl (cI, 48, .inl (σ.1 7))) := rfl
theorem wM_8 (ad : Nat → Nat) (cI cJ cZ : ClassId) (σ : SS) : (wM ad cI cJ cZ σ)[8]? = some (ad 8, .inl (cZ, 48, .inl (σ.1 8))) := rfl
theorem wM_9 (ad : Nat → Nat) (cI cJ cZ : ClassId) (σ : SS) : (wM ad cI cJ cZ σ)[9]? = some (ad 9, .inl (cI, 48, .inl (σ.1 9))) := rfl
theorem wM_10 (ad : Nat → Nat) (cI cJ cZ : ClassId) (σ : SS) : (wM ad cI cJ cZ σ)[10]? = some (ad 10, .inl (cI, 1152, .inl (σ.1 10))) := rfl
theorem wM_11 (ad : Nat → Nat) (cI cJ cZ : ClassId) (σ : SS) : (wM ad cI cJ cZ σ)[11]? = some (ad 11, .inl (cI, 160, .inl (σ.1 11))) := rfl
theorem wM_12 (ad : Nat → Nat) (cI cJ cZ : ClassId) (σ : SS) : (wM ad cI cJ cZ σ)[12]? = some (ad 12, .inl (cI, 160, .inl (σ.1 12))) := rfl
theorem wM_13 (ad : Nat → Nat) (cI cJ cZ : ClassId) (σ : SS) : (wM ad cI cJ cZ σ)[13]? = some (ad 13, .inl (cI, 160, .inl (σ.1 13))) := rfl
theorem wM_14 (ad : Nat → Nat) (cI cJ cZ : ClassId) (σ : SS) : (wM ad cI cJ cZ σ)[14]? = some (ad 14, .inl (cZ, 48, .inl (σ.1 14))) := rfl
theorem wM_15 (ad : Nat → Nat) (cI cJ cZ : ClassId) (σ : SS) : (wM ad cI cJ cZ σ)[15]? = some (ad 15, .inl (cZ, 16, .inl (σ.1 15))) := rfl
theorem wM_16 (ad : Nat → Nat) (cI cJ cZ : ClassId) (σ : SS) : (wM ad cI cJ cZ σ)[16]? = some (ad 16, .inl (cZ, 16, .inl (σ.1 16))) := rfl
theorem wM_17 (ad : Nat → Nat) (cI cJ cZ : ClassId) (σ : SS) : (wM ad cI cJ cZ σ)[17]? = some (ad 17, .inl (cZ, 192, .inl (σ.1 17))) := rfl
theorem wM_18 (ad : Nat → Nat) (cI cJ cZ : ClassId) (σ : SS) : (wM ad cI cJ cZ σ)[18]? = some (ad 18, .inl (cZ, 7680, .inl (σ.1 18))) := rfl
theorem wM_19 (ad : Nat → Nat) (cI cJ cZ : ClassId) (σ : SS) : (wM ad cI cJ cZ σ)[19]? = some (ad 19, .inl (cI, 640, .inl (σ.1 19))) := rfl
theorem wM_20 (ad : Nat → Nat) (cI cJ cZ : ClassId) (σ : SS) : (wM ad cI cJ cZ σ)[20]? = some (ad 20, .inl (cZ, 16, .inl (σ.1 20))) := rfl
theorem wM_21 (ad : Nat → Nat) (cI cJ cZ : ClassId) (σ : SS) : (wM ad cI cJ cZ σ)[21]? = some (ad 21, .inl (cZ, 256, .inl (σ.1 21))) := rfl
theorem wM_22 (ad : Nat → Nat) (cI cJ cZ : ClassId) (σ : SS) : (wM ad cI cJ cZ σ)[22]? = some (ad 22, .inl (cZ, 48, .inl (σ.1 22))) := rfl
theorem wM_23 (ad : Nat → Nat) (cI cJ cZ : ClassId) (σ : SS) : (wM ad cI cJ cZ σ)[23]? = some (ad 23, .inl (cZ, 16, .inl (σ.1 23))) := rfl
theorem wM_24 (ad : Nat → Nat) (cI cJ cZ : ClassId) (σ : SS) : (wM ad cI cJ cZ σ)[24]? = some (ad 24, .inl (cZ, 16, .inl (σ.1 24))) := rfl
theorem wM_25 (ad : Nat → Nat) (cI cJ cZ : ClassId) (σ : SS) : (wM ad cI cJ cZ σ)[25]? = some (ad 25, .inl (cZ, 2304, .inl (σ.1 25))) := rfl
theorem wM_26 (ad : Nat → Nat) (cI cJ cZ : ClassId) (σ : SS) : (wM ad cI cJ cZ σ)[26]? = some (ad 26, .inl (cZ, 2304, .inl (σ.1 26))) := rfl
theorem wM_27 (ad : Nat → Nat) (cI cJ cZ : ClassId) (σ : SS) : (wM ad cI cJ cZ σ)[27]? = some (ad 27, .inl (cI, 48, .inl (σ.1 27))) := rfl
theorem wM_28 (ad : Nat → Nat) (cI cJ cZ : ClassId) (σ : SS) : (wM ad cI cJ cZ σ)[28]? = some (ad 28, .inl (cI, 1000, .inl (σ.1 28))) := rfl
theorem wM_29 (ad : Nat → Nat) (cI cJ cZ : ClassId) (σ : SS) : (wM ad cI cJ cZ σ)[29]? = some (ad 29, .inl (cI, 1000, .inl (σ.1 29))) := rfl
theorem wM_30 (ad : Nat → Nat) (cI cJ cZ : ClassId) (σ : SS) : (wM ad cI cJ cZ σ)[30]? = some (ad 30, .inl (cI, 1000, .inl (σ.1 30))) := rfl
theorem wM_31 (ad : Nat → Nat) (cI cJ cZ : ClassId) (σ : SS) : (wM ad cI cJ cZ σ)[31]? = some (ad 31, .inl (cI, 1000, .inl (σ.1 31))) := rfl
theorem wM_32 (ad : Nat → Nat) (cI cJ cZ : ClassId) (σ : SS) : (wM ad cI cJ cZ σ)[32]? = some (ad 32, .inl (cZ, 48, .inl (σ.1 32))) := rfl
theorem wM_33 (ad : Nat → Nat) (cI cJ cZ : ClassId) (σ : SS) : (wM ad cI cJ cZ σ)[33]? = some (ad 33, .inl (cZ, 16, .inl (σ.1 33))) := rfl
theorem wM_34 (ad : Nat → Nat) (cI cJ cZ : ClassId) (σ : SS) : (wM ad cI cJ cZ σ)[34]? = some (ad 34, .inl (cI, 20, .inl (σ.1 34))) := rfl
theorem wM_35 (ad : Nat → Nat) (cI cJ cZ : ClassId) (σ : SS) : (wM ad cI cJ cZ σ)[35]? = some (ad 35, .inl (cI, 192, .inl (σ.1 35))) := rfl
theorem wM_36 (ad : Nat → Nat) (cI cJ cZ : ClassId) (σ : SS) : (wM ad cI cJ cZ σ)[36]? = some (ad 36, .inl (cI, 4, .inl (σ.1 36))) := rfl
theorem fM_0_0 (ad : Nat → Nat) (σ : SS) : (fM0 ad σ)[0]? = some (.int (σ.1 0 0)) := rfl
theorem wM_p0_0 {D : va_G} {ad : Nat → Nat} {cI cJ cZ : ClassId} {σ : SS} {H : Heap} {x : Int32} (h : va_P D vwCl ((wM ad cI cJ cZ σ).set 0 (ad 0, .inr (7, (fM0 ad σ).set 0 (.int x)))) H) : va_P D vwCl (wM ad cI cJ cZ (sI σ 0 0 x)) H := h
theorem fM_0_1 (ad : Nat → Nat) (σ : SS) : (fM0 ad σ)[1]? = some (.ref (ad 1)) := rfl
theorem fM_0_2 (ad : Nat → Nat) (σ : SS) : (fM0 ad σ)[2]? = some (.ref (ad 2)) := rfl
theorem fM_0_3 (ad : Nat → Nat) (σ : SS) : (fM0 ad σ)[3]? = some (.ref (ad 3)) := rfl
theorem fM_0_4 (ad : Nat → Nat) (σ : SS) : (fM0 ad σ)[4]? = some (.ref (ad 4)) := rfl
theorem fM_0_5 (ad : Nat → Nat) (σ : SS) : (fM0 ad σ)[5]? = some (.int (σ.1 0 5)) := rfl
theorem wM_p0_5 {D : va_G} {ad : Nat → Nat} {cI cJ cZ : ClassId} {σ : SS} {H : Heap} {x : Int32} (h : va_P D vwCl ((wM ad cI cJ cZ σ).set 0 (ad 0, .inr (7, (fM0 ad σ).set 5 (.int x)))) H) : va_P D vwCl (wM ad cI cJ cZ (sI σ 0 5 x)) H := h
theorem fM_0_6 (ad : Nat → Nat) (σ : SS) : (fM0 ad σ)[6]? = some (.ref (ad 5)) := rfl
theorem fM_0_7 (ad : Nat → Nat) (σ : SS) : (fM0 ad σ)[7]? = some (.ref (ad 6)) := rfl
theorem fM_0_8 (ad : Nat → Nat) (σ : SS) : (fM0 ad σ)[8]? = some (.ref (ad 7)) := rfl
theorem fM_0_9 (ad : Nat → Nat) (σ : SS) : (fM0 ad σ)[9]? = some (.ref (ad 8)) := rfl
theorem fM_0_10 (ad : Nat → Nat) (σ : SS) : (fM0 ad σ)[10]? = some (.ref (ad 9)) := rfl
theorem fM_0_11 (ad : Nat → Nat) (σ : SS) : (fM0 ad σ)[11]? = some (.ref (ad 10)) := rfl
theorem fM_0_12 (ad : Nat → Nat) (σ : SS) : (fM0 ad σ)[12]? = some (.int (σ.1 0 12)) := rfl
theorem wM_p0_12 {D : va_G} {ad : Nat → Nat} {cI cJ cZ : ClassId} {σ : SS} {H : Heap} {x : Int32} (h : va_P D vwCl ((wM ad cI cJ cZ σ).set 0 (ad 0, .inr (7, (fM0 ad σ).set 12 (.int x)))) H) : va_P D vwCl (wM ad cI cJ cZ (sI σ 0 12 x)) H := h
theorem fM_0_13 (ad : Nat → Nat) (σ : SS) : (fM0 ad σ)[13]? = some (.ref (ad 11)) := rfl
theorem fM_0_14 (ad : Nat → Nat) (σ : SS) : (fM0 ad σ)[14]? = some (.ref (ad 12)) := rfl
theorem fM_0_15 (ad : Nat → Nat) (σ : SS) : (fM0 ad σ)[15]? = some (.ref (ad 13)) := rfl
theorem fM_0_16 (ad : Nat → Nat) (σ : SS) : (fM0 ad σ)[16]? = some (.int (σ.1 0 16)) := rfl
theorem wM_p0_16 {D : va_G} {ad : Nat → Nat} {cI cJ cZ : ClassId} {σ : SS} {H : Heap} {x : Int32} (h : va_P D vwCl ((wM ad cI cJ cZ σ).set 0 (ad 0, .inr (7, (fM0 ad σ).set 16 (.int x)))) H) : va_P D vwCl (wM ad cI cJ cZ (sI σ 0 16 x)) H := h
theorem fM_0_17 (ad : Nat → Nat) (σ : SS) : (fM0 ad σ)[17]? = some (.int (σ.1 0 17)) := rfl
theorem wM_p0_17 {D : va_G} {ad : Nat → Nat} {cI cJ cZ : ClassId} {σ : SS} {H : Heap} {x : Int32} (h : va_P D vwCl ((wM ad cI cJ cZ σ).set 0 (ad 0, .inr (7, (fM0 ad σ).set 17 (.int x)))) H) : va_P D vwCl (wM ad cI cJ cZ (sI σ 0 17 x)) H := h
theorem fM_0_18 (ad : Nat → Nat) (σ : SS) : (fM0 ad σ)[18]? = some (.ref (ad 14)) := rfl
theorem fM_0_19 (ad : Nat → Nat) (σ : SS) : (fM0 ad σ)[19]? = some (.ref (ad 15)) := rfl
theorem fM_0_20 (ad : Nat → Nat) (σ : SS) : (fM0 ad σ)[20]? = some (.ref (ad 16)) := rfl
theorem fM_0_21 (ad : Nat → Nat) (σ : SS) : (fM0 ad σ)[21]? = some (.ref (ad 17)) := rfl
theorem fM_0_22 (ad : Nat → Nat) (σ : SS) : (fM0 ad σ)[22]? = some (.ref (ad 18)) := rfl
theorem fM_0_23 (ad : Nat → Nat) (σ : SS) : (fM0 ad σ)[23]? = some (.ref (ad 19)) := rfl
theorem fM_0_24 (ad : Nat → Nat) (σ : SS) : (fM0 ad σ)[24]? = some (.ref (ad 20)) := rfl
theorem fM_0_25 (ad : Nat → Nat) (σ : SS) : (fM0 ad σ)[25]? = some (.ref (ad 21)) := rfl
theorem fM_0_26 (ad : Nat → Nat) (σ : SS) : (fM0 ad σ)[26]? = some (.int (σ.1 0 26)) := rfl
theorem wM_p0_26 {D : va_G} {ad : Nat → Nat} {cI cJ cZ : ClassId} {σ : SS} {H : Heap} {x : Int32} (h : va_P D vwCl ((wM ad cI cJ cZ σ).set 0 (ad 0, .inr (7, (fM0 ad σ).set 26 (.int x)))) H) : va_P D vwCl (wM ad cI cJ cZ (sI σ 0 26 x)) H := h
theorem fM_0_27 (ad : Nat → Nat) (σ : SS) : (fM0 ad σ)[27]? = some (.ref (ad 22)) := rfl
theorem fM_0_28 (ad : Nat → Nat) (σ : SS) : (fM0 ad σ)[28]? = some (.ref (ad 23)) := rfl
theorem fM_0_29 (ad : Nat → Nat) (σ : SS) : (fM0 ad σ)[29]? = some (.ref (ad 24)) := rfl
theorem fM_0_30 (ad : Nat → Nat) (σ : SS) : (fM0 ad σ)[30]? = some (.ref (ad 25)) := rfl
theorem fM_0_31 (ad : Nat → Nat) (σ : SS) : (fM0 ad σ)[31]? = some (.ref (ad 26)) := rfl
theorem fM_0_32 (ad : Nat → Nat) (σ : SS) : (fM0 ad σ)[32]? = some (.ref (ad 27)) := rfl
theorem fM_0_33 (ad : Nat → Nat) (σ : SS) : (fM0 ad σ)[33]? = some (.ref (ad 28)) := rfl
theorem fM_0_34 (ad : Nat → Nat) (σ : SS) : (fM0 ad σ)[34]? = some (.ref (ad 29)) := rfl
theorem fM_0_35 (ad : Nat → Nat) (σ : SS) : (fM0 ad σ)[35]? = some (.ref (ad 30)) := rfl
theorem fM_0_36 (ad : Nat → Nat) (σ : SS) : (fM0 ad σ)[36]? = some (.ref (ad 31)) := rfl
theorem fM_0_37 (ad : Nat → Nat) (σ : SS) : (fM0 ad σ)[37]? = some (.int (σ.1 0 37)) := rfl
theorem wM_p0_37 {D : va_G} {ad : Nat → Nat} {cI cJ cZ : ClassId} {σ : SS} {H : Heap} {x : Int32} (h : va_P D vwCl ((wM ad cI cJ cZ σ).set 0 (ad 0, .inr (7, (fM0 ad σ).set 37 (.int x)))) H) : va_P D vwCl (wM ad cI cJ cZ (sI σ 0 37 x)) H := h
theorem fM_0_38 (ad : Nat → Nat) (σ : SS) : (fM0 ad σ)[38]? = some (.long (σ.2 0 38)) := rfl
theorem wM_p0_38 {D : va_G} {ad : Nat → Nat} {cI cJ cZ : ClassId} {σ : SS} {H : Heap} {x : Int64} (h : va_P D vwCl ((wM ad cI cJ cZ σ).set 0 (ad 0, .inr (7, (fM0 ad σ).set 38 (.long x)))) H) : va_P D vwCl (wM ad cI cJ cZ (sL σ 0 38 x)) H := h
theorem fM_0_39 (ad : Nat → Nat) (σ : SS) : (fM0 ad σ)[39]? = some (.int (σ.1 0 39)) := rfl
theorem wM_p0_39 {D : va_G} {ad : Nat → Nat} {cI cJ cZ : ClassId} {σ : SS} {H : Heap} {x : Int32} (h : va_P D vwCl ((wM ad cI cJ cZ σ).set 0 (ad 0, .inr (7, (fM0 ad σ).set 39 (.int x)))) H) : va_P D vwCl (wM ad cI cJ cZ (sI σ 0 39 x)) H := h
theorem fM_0_40 (ad : Nat → Nat) (σ : SS) : (fM0 ad σ)[40]? = some (.int (σ.1 0 40)) := rfl
theorem wM_p0_40 {D : va_G} {ad : Nat → Nat} {cI cJ cZ : ClassId} {σ : SS} {H : Heap} {x : Int32} (h : va_P D vwCl ((wM ad cI cJ cZ σ).set 0 (ad 0, .inr (7, (fM0 ad σ).set 40 (.int x)))) H) : va_P D vwCl (wM ad cI cJ cZ (sI σ 0 40 x)) H := h
theorem fM_0_41 (ad : Nat → Nat) (σ : SS) : (fM0 ad σ)[41]? = some (.int (σ.1 0 41)) := rfl
theorem wM_p0_41 {D : va_G} {ad : Nat → Nat} {cI cJ cZ : ClassId} {σ : SS} {H : Heap} {x : Int32} (h : va_P D vwCl ((wM ad cI cJ cZ σ).set 0 (ad 0, .inr (7, (fM0 ad σ).set 41 (.int x)))) H) : va_P D vwCl (wM ad cI cJ cZ (sI σ 0 41 x)) H := h
theorem fM_0_42 (ad : Nat → Nat) (σ : SS) : (fM0 ad σ)[42]? = some (.int (σ.1 0 42)) := rfl
theorem wM_p0_42 {D : va_G} {ad : Nat → Nat} {cI cJ cZ : ClassId} {σ : SS} {H : Heap} {x : Int32} (h : va_P D vwCl ((wM ad cI cJ cZ σ).set 0 (ad 0, .inr (7, (fM0 ad σ).set 42 (.int x)))) H) : va_P D vwCl (wM ad cI cJ cZ (sI σ 0 42 x)) H := h
theorem fM_0_43 (ad : Nat → Nat) (σ : SS) : (fM0 ad σ)[43]? = some (.int (σ.1 0 43)) := rfl
theorem wM_p0_43 {D : va_G} {ad : Nat → Nat} {cI cJ cZ : ClassId} {σ : SS} {H : Heap} {x : Int32} (h : va_P D vwCl ((wM ad cI cJ cZ σ).set 0 (ad 0, .inr (7, (fM0 ad σ).set 43 (.int x)))) H) : va_P D vwCl (wM ad cI cJ cZ (sI σ 0 43 x)) H := h
theorem fM_0_44 (ad : Nat → Nat) (σ : SS) : (fM0 ad σ)[44]? = some (.ref (ad 32)) := rfl
theorem fM_0_45 (ad : Nat → Nat) (σ : SS) : (fM0 ad σ)[45]? = some (.ref (ad 33)) := rfl
theorem fM_0_46 (ad : Nat → Nat) (σ : SS) : (fM0 ad σ)[46]? = some (.ref (ad 34)) := rfl
theorem fM_0_47 (ad : Nat → Nat) (σ : SS) : (fM0 ad σ)[47]? = some (.int (σ.1 0 47)) := rfl
theorem wM_p0_47 {D : va_G} {ad : Nat → Nat} {cI cJ cZ : ClassId} {σ : SS} {H : Heap} {x : Int32} (h : va_P D vwCl ((wM ad cI cJ cZ σ).set 0 (ad 0, .inr (7, (fM0 ad σ).set 47 (.int x)))) H) : va_P D vwCl (wM ad cI cJ cZ (sI σ 0 47 x)) H := h
theorem fM_0_48 (ad : Nat → Nat) (σ : SS) : (fM0 ad σ)[48]? = some (.ref (ad 35)) := rfl
theorem fM_0_49 (ad : Nat → Nat) (σ : SS) : (fM0 ad σ)[49]? = some (.ref (ad 36)) := rfl
theorem wM_s1 {D : va_G} {ad : Nat → Nat} {cI cJ cZ : ClassId} {σ : SS} {H : Heap} {j : Nat} {x : Int32} (h : va_P D vwCl ((wM ad cI cJ cZ σ).set 1 (ad 1, .inl (cI, 16, .inl (upd (σ.1 1) j x)))) H) : va_P D vwCl (wM ad cI cJ cZ (sI σ 1 j x)) H := h
theorem wM_s2 {D : va_G} {ad : Nat → Nat} {cI cJ cZ : ClassId} {σ : SS} {H : Heap} {j : Nat} {x : Int32} (h : va_P D vwCl ((wM ad cI cJ cZ σ).set 2 (ad 2, .inl (cI, 16, .inl (upd (σ.1 2) j x)))) H) : va_P D vwCl (wM ad cI cJ cZ (sI σ 2 j x)) H := h
theorem wM_s3 {D : va_G} {ad : Nat → Nat} {cI cJ cZ : ClassId} {σ : SS} {H : Heap} {j : Nat} {x : Int32} (h : va_P D vwCl ((wM ad cI cJ cZ σ).set 3 (ad 3, .inl (cI, 16, .inl (upd (σ.1 3) j x)))) H) : va_P D vwCl (wM ad cI cJ cZ (sI σ 3 j x)) H := h
theorem wM_s4 {D : va_G} {ad : Nat → Nat} {cI cJ cZ : ClassId} {σ : SS} {H : Heap} {j : Nat} {x : Int32} (h : va_P D vwCl ((wM ad cI cJ cZ σ).set 4 (ad 4, .inl (cI, 48, .inl (upd (σ.1 4) j x)))) H) : va_P D vwCl (wM ad cI cJ cZ (sI σ 4 j x)) H := h
theorem wM_s5 {D : va_G} {ad : Nat → Nat} {cI cJ cZ : ClassId} {σ : SS} {H : Heap} {j : Nat} {x : Int32} (h : va_P D vwCl ((wM ad cI cJ cZ σ).set 5 (ad 5, .inl (cI, 48, .inl (upd (σ.1 5) j x)))) H) : va_P D vwCl (wM ad cI cJ cZ (sI σ 5 j x)) H := h
theorem wM_s6 {D : va_G} {ad : Nat → Nat} {cI cJ cZ : ClassId} {σ : SS} {H : Heap} {j : Nat} {x : Int32} (h : va_P D vwCl ((wM ad cI cJ cZ σ).set 6 (ad 6, .inl (cI, 48, .inl (upd (σ.1 6) j x)))) H) : va_P D vwCl (wM ad cI cJ cZ (sI σ 6 j x)) H := h
theorem wM_s7 {D : va_G} {ad : Nat → Nat} {cI cJ cZ : ClassId} {σ : SS} {H : Heap} {j : Nat} {x : Int32} (h : va_P D vwCl ((wM ad cI cJ cZ σ).set 7 (ad 7, .inl (cI, 48, .inl (upd (σ.1 7) j x)))) H) : va_P D vwCl (wM ad cI cJ cZ (sI σ 7 j x)) H := h
theorem wM_s8 {D : va_G} {ad : Nat → Nat} {cI cJ cZ : ClassId} {σ : SS} {H : Heap} {j : Nat} {x : Int32} (h : va_P D vwCl ((wM ad cI cJ cZ σ).set 8 (ad 8, .inl (cZ, 48, .inl (upd (σ.1 8) j x)))) H) : va_P D vwCl (wM ad cI cJ cZ (sI σ 8 j x)) H := h
theorem wM_s9 {D : va_G} {ad : Nat → Nat} {cI cJ cZ : ClassId} {σ : SS} {H : Heap} {j : Nat} {x : Int32} (h : va_P D vwCl ((wM ad cI cJ cZ σ).set 9 (ad 9, .inl (cI, 48, .inl (upd (σ.1 9) j x)))) H) : va_P D vwCl (wM ad cI cJ cZ (sI σ 9 j x)) H := h
theorem wM_s10 {D : va_G} {ad : Nat → Nat} {cI cJ cZ : ClassId} {σ : SS} {H : Heap} {j : Nat} {x : Int32} (h : va_P D vwCl ((wM ad cI cJ cZ σ).set 10 (ad 10, .inl (cI, 1152, .inl (upd (σ.1 10) j x)))) H) : va_P D vwCl (wM ad cI cJ cZ (sI σ 10 j x)) H := h
theorem wM_s11 {D : va_G} {ad : Nat → Nat} {cI cJ cZ : ClassId} {σ : SS} {H : Heap} {j : Nat} {x : Int32} (h : va_P D vwCl ((wM ad cI cJ cZ σ).set 11 (ad 11, .inl (cI, 160, .inl (upd (σ.1 11) j x)))) H) : va_P D vwCl (wM ad cI cJ cZ (sI σ 11 j x)) H := h
theorem wM_s12 {D : va_G} {ad : Nat → Nat} {cI cJ cZ : ClassId} {σ : SS} {H : Heap} {j : Nat} {x : Int32} (h : va_P D vwCl ((wM ad cI cJ cZ σ).set 12 (ad 12, .inl (cI, 160, .inl (upd (σ.1 12) j x)))) H) : va_P D vwCl (wM ad cI cJ cZ (sI σ 12 j x)) H := h
theorem wM_s13 {D : va_G} {ad : Nat → Nat} {cI cJ cZ : ClassId} {σ : SS} {H : Heap} {j : Nat} {x : Int32} (h : va_P D vwCl ((wM ad cI cJ cZ σ).set 13 (ad 13, .inl (cI, 160, .inl (upd (σ.1 13) j x)))) H) : va_P D vwCl (wM ad cI cJ cZ (sI σ 13 j x)) H := h
theorem wM_s14 {D : va_G} {ad : Nat → Nat} {cI cJ cZ : ClassId} {σ : SS} {H : Heap} {j : Nat} {x : Int32} (h : va_P D vwCl ((wM ad cI cJ cZ σ).set 14 (ad 14, .inl (cZ, 48, .inl (upd (σ.1 14) j x)))) H) : va_P D vwCl (wM ad cI cJ cZ (sI σ 14 j x)) H := h
theorem wM_s15 {D : va_G} {ad : Nat → Nat} {cI cJ cZ : ClassId} {σ : SS} {H : Heap} {j : Nat} {x : Int32} (h : va_P D vwCl ((wM ad cI cJ cZ σ).set 15 (ad 15, .inl (cZ, 16, .inl (upd (σ.1 15) j x)))) H) : va_P D vwCl (wM ad cI cJ cZ (sI σ 15 j x)) H := h
theorem wM_s16 {D : va_G} {ad : Nat → Nat} {cI cJ cZ : ClassId} {σ : SS} {H : Heap} {j : Nat} {x : Int32} (h : va_P D vwCl ((wM ad cI cJ cZ σ).set 16 (ad 16, .inl (cZ, 16, .inl (upd (σ.1 16) j x)))) H) : va_P D vwCl (wM ad cI cJ cZ (sI σ 16 j x)) H := h
theorem wM_s17 {D : va_G} {ad : Nat → Nat} {cI cJ cZ : ClassId} {σ : SS} {H : Heap} {j : Nat} {x : Int32} (h : va_P D vwCl ((wM ad cI cJ cZ σ).set 17 (ad 17, .inl (cZ, 192, .inl (upd (σ.1 17) j x)))) H) : va_P D vwCl (wM ad cI cJ cZ (sI σ 17 j x)) H := h
theorem wM_s18 {D : va_G} {ad : Nat → Nat} {cI cJ cZ : ClassId} {σ : SS} {H : Heap} {j : Nat} {x : Int32} (h : va_P D vwCl ((wM ad cI cJ cZ σ).set 18 (ad 18, .inl (cZ, 7680, .inl (upd (σ.1 18) j x)))) H) : va_P D vwCl (wM ad cI cJ cZ (sI σ 18 j x)) H := h
theorem wM_s19 {D : va_G} {ad : Nat → Nat} {cI cJ cZ : ClassId} {σ : SS} {H : Heap} {j : Nat} {x : Int32} (h : va_P D vwCl ((wM ad cI cJ cZ σ).set 19 (ad 19, .inl (cI, 640, .inl (upd (σ.1 19) j x)))) H) : va_P D vwCl (wM ad cI cJ cZ (sI σ 19 j x)) H := h
theorem wM_s20 {D : va_G} {ad : Nat → Nat} {cI cJ cZ : ClassId} {σ : SS} {H : Heap} {j : Nat} {x : Int32} (h : va_P D vwCl ((wM ad cI cJ cZ σ).set 20 (ad 20, .inl (cZ, 16, .inl (upd (σ.1 20) j x)))) H) : va_P D vwCl (wM ad cI cJ cZ (sI σ 20 j x)) H := h
theorem wM_s21 {D : va_G} {ad : Nat → Nat} {cI cJ cZ : ClassId} {σ : SS} {H : Heap} {j : Nat} {x : Int32} (h : va_P D vwCl ((wM ad cI cJ cZ σ).set 21 (ad 21, .inl (cZ, 256, .inl (upd (σ.1 21) j x)))) H) : va_P D vwCl (wM ad cI cJ cZ (sI σ 21 j x)) H := h
theorem wM_s22 {D : va_G} {ad : Nat → Nat} {cI cJ cZ : ClassId} {σ : SS} {H : Heap} {j : Nat} {x : Int32} (h : va_P D vwCl ((wM ad cI cJ cZ σ).set 22 (ad 22, .inl (cZ, 48, .inl (upd (σ.1 22) j x)))) H) : va_P D vwCl (wM ad cI cJ cZ (sI σ 22 j x)) H := h
theorem wM_s23 {D : va_G} {ad : Nat → Nat} {cI cJ cZ : ClassId} {σ : SS} {H : Heap} {j : Nat} {x : Int32} (h : va_P D vwCl ((wM ad cI cJ cZ σ).set 23 (ad 23, .inl (cZ, 16, .inl (upd (σ.1 23) j x)))) H) : va_P D vwCl (wM ad cI cJ cZ (sI σ 23 j x)) H := h
theorem wM_s24 {D : va_G} {ad : Nat → Nat} {cI cJ cZ : ClassId} {σ : SS} {H : Heap} {j : Nat} {x : Int32} (h : va_P D vwCl ((wM ad cI cJ cZ σ).set 24 (ad 24, .inl (cZ, 16, .inl (upd (σ.1 24) j x)))) H) : va_P D vwCl (wM ad cI cJ cZ (sI σ 24 j x)) H := h
theorem wM_s25 {D : va_G} {ad : Nat → Nat} {cI cJ cZ : ClassId} {σ : SS} {H : Heap} {j : Nat} {x : Int32} (h : va_P D vwCl ((wM ad cI cJ cZ σ).set 25 (ad 25, .inl (cZ, 2304, .inl (upd (σ.1 25) j x)))) H) : va_P D vwCl (wM ad cI cJ cZ (sI σ 25 j x)) H := h
theorem wM_s26 {D : va_G} {ad : Nat → Nat} {cI cJ cZ : ClassId} {σ : SS} {H : Heap} {j : Nat} {x : Int32} (h : va_P D vwCl ((wM ad cI cJ cZ σ).set 26 (ad 26, .inl (cZ, 2304, .inl (upd (σ.1 26) j x)))) H) : va_P D vwCl (wM ad cI cJ cZ (sI σ 26 j x)) H := h
theorem wM_s27 {D : va_G} {ad : Nat → Nat} {cI cJ cZ : ClassId} {σ : SS} {H : Heap} {j : Nat} {x : Int32} (h : va_P D vwCl ((wM ad cI cJ cZ σ).set 27 (ad 27, .inl (cI, 48, .inl (upd (σ.1 27) j x)))) H) : va_P D vwCl (wM ad cI cJ cZ (sI σ 27 j x)) H := h
theorem wM_s28 {D : va_G} {ad : Nat → Nat} {cI cJ cZ : ClassId} {σ : SS} {H : Heap} {j : Nat} {x : Int32} (h : va_P D vwCl ((wM ad cI cJ cZ σ).set 28 (ad 28, .inl (cI, 1000, .inl (upd (σ.1 28) j x)))) H) : va_P D vwCl (wM ad cI cJ cZ (sI σ 28 j x)) H := h
theorem wM_s29 {D : va_G} {ad : Nat → Nat} {cI cJ cZ : ClassId} {σ : SS} {H : Heap} {j : Nat} {x : Int32} (h : va_P D vwCl ((wM ad cI cJ cZ σ).set 29 (ad 29, .inl (cI, 1000, .inl (upd (σ.1 29) j x)))) H) : va_P D vwCl (wM ad cI cJ cZ (sI σ 29 j x)) H := h
theorem wM_s30 {D : va_G} {ad : Nat → Nat} {cI cJ cZ : ClassId} {σ : SS} {H : Heap} {j : Nat} {x : Int32} (h : va_P D vwCl ((wM ad cI cJ cZ σ).set 30 (ad 30, .inl (cI, 1000, .inl (upd (σ.1 30) j x)))) H) : va_P D vwCl (wM ad cI cJ cZ (sI σ 30 j x)) H := h
theorem wM_s31 {D : va_G} {ad : Nat → Nat} {cI cJ cZ : ClassId} {σ : SS} {H : Heap} {j : Nat} {x : Int32} (h : va_P D vwCl ((wM ad cI cJ cZ σ).set 31 (ad 31, .inl (cI, 1000, .inl (upd (σ.1 31) j x)))) H) : va_P D vwCl (wM ad cI cJ cZ (sI σ 31 j x)) H := h
theorem wM_s32 {D : va_G} {ad : Nat → Nat} {cI cJ cZ : ClassId} {σ : SS} {H : Heap} {j : Nat} {x : Int32} (h : va_P D vwCl ((wM ad cI cJ cZ σ).set 32 (ad 32, .inl (cZ, 48, .inl (upd (σ.1 32) j x)))) H) : va_P D vwCl (wM ad cI cJ cZ (sI σ 32 j x)) H := h
theorem wM_s33 {D : va_G} {ad : Nat → Nat} {cI cJ cZ : ClassId} {σ : SS} {H : Heap} {j : Nat} {x : Int32} (h : va_P D vwCl ((wM ad cI cJ cZ σ).set 33 (ad 33, .inl (cZ, 16, .inl (upd (σ.1 33) j x)))) H) : va_P D vwCl (wM ad cI cJ cZ (sI σ 33 j x)) H := h
theorem wM_s34 {D : va_G} {ad : Nat → Nat} {cI cJ cZ : ClassId} {σ : SS} {H : Heap} {j : Nat} {x : Int32} (h : va_P D vwCl ((wM ad cI cJ cZ σ).set 34 (ad 34, .inl (cI, 20, .inl (upd (σ.1 34) j x)))) H) : va_P D vwCl (wM ad cI cJ cZ (sI σ 34 j x)) H := h
theorem wM_s35 {D : va_G} {ad : Nat → Nat} {cI cJ cZ : ClassId} {σ : SS} {H : Heap} {j : Nat} {x : Int32} (h : va_P D vwCl ((wM ad cI cJ cZ σ).set 35 (ad 35, .inl (cI, 192, .inl (upd (σ.1 35) j x)))) H) : va_P D vwCl (wM ad cI cJ cZ (sI σ 35 j x)) H := h
theorem wM_s36 {D : va_G} {ad : Nat → Nat} {cI cJ cZ : ClassId} {σ : SS} {H : Heap} {j : Nat} {x : Int32} (h : va_P D vwCl ((wM ad cI cJ cZ σ).set 36 (ad 36, .inl (cI, 4, .inl (upd (σ.1 36) j x)))) H) : va_P D vwCl (wM ad cI cJ cZ (sI σ 36 j x)) H := h
