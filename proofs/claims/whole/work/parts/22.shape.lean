/-! ===== the shape of the memory once all is made ===== -/
def KS : List (Nat × Nat) := [(8, 11), (4, 17), (10, 700), (6, 18), (11, 14), (11, 10), (11, 10), (11, 10), (11, 14), (11, 14), (11, 4), (11, 64), (11, 3), (11, 3), (11, 72), (6, 18), (11, 14), (11, 10), (11, 10), (11, 10), (11, 14), (11, 14), (11, 4), (11, 64), (11, 3), (11, 3), (2, 10), (11, 14), (11, 10), (11, 10), (2, 10), (11, 14), (11, 10), (11, 10), (2, 10), (11, 14), (11, 10), (11, 10), (1, 7), (11, 7), (12, 64), (7, 9), (11, 20), (11, 20), (11, 20), (11, 20), (11, 20), (11, 20), (11, 20), (3, 13), (11, 24), (11, 24), (13, 24), (5, 4), (11, 1024), (11, 1024), (0, 4), (11, 14), (11, 14), (9, 78), (11, 700), (11, 101), (11, 2), (13, 2), (11, 4), (11, 28), (11, 20), (11, 20), (11, 20), (11, 28), (11, 28), (11, 8), (13, 6), (11, 6), (11, 6), (11, 128), (11, 128), (11, 128), (11, 96), (11, 96), (12, 7), (12, 64), (11, 2), (11, 2), (11, 2), (11, 2), (11, 2), (11, 2), (11, 28), (11, 20), (11, 20), (11, 1024), (11, 14), (11, 1024), (11, 72), (13, 24), (11, 480), (11, 24), (11, 16)]
def RT : List (Nat × Nat × Nat) := [(0, 0, 1), (0, 2, 26), (0, 3, 30), (0, 4, 34), (0, 6, 38), (0, 7, 41), (0, 8, 49), (0, 9, 53), (0, 10, 56), (1, 3, 2), (1, 11, 14), (3, 8, 4), (3, 9, 5), (3, 10, 6), (3, 11, 7), (3, 12, 8), (3, 13, 9), (3, 14, 10), (3, 15, 11), (3, 16, 12), (3, 17, 13), (15, 8, 16), (15, 9, 17), (15, 10, 18), (15, 11, 19), (15, 12, 20), (15, 13, 21), (15, 14, 22), (15, 15, 23), (15, 16, 24), (15, 17, 25), (26, 7, 27), (26, 8, 28), (26, 9, 29), (30, 7, 31), (30, 8, 32), (30, 9, 33), (34, 7, 35), (34, 8, 36), (34, 9, 37), (38, 5, 39), (38, 6, 40), (41, 2, 42), (41, 3, 43), (41, 4, 44), (41, 5, 45), (41, 6, 46), (41, 7, 47), (41, 8, 48), (49, 10, 50), (49, 11, 51), (49, 12, 52), (53, 1, 54), (53, 3, 55), (56, 0, 57), (56, 1, 58), (59, 0, 60), (59, 3, 61), (59, 22, 62), (59, 23, 63), (59, 24, 64), (59, 25, 65), (59, 26, 66), (59, 27, 67), (59, 28, 68), (59, 29, 69), (59, 30, 70), (59, 31, 71), (59, 32, 72), (59, 33, 73), (59, 34, 74), (59, 35, 75), (59, 36, 76), (59, 37, 77), (59, 38, 78), (59, 39, 79), (59, 46, 80), (59, 47, 81), (59, 49, 82), (59, 50, 83), (59, 51, 84), (59, 52, 85), (59, 53, 86), (59, 54, 87), (59, 55, 88), (59, 56, 89), (59, 57, 90), (59, 64, 91), (59, 66, 92), (59, 67, 93), (59, 70, 94), (59, 71, 95), (59, 73, 96), (59, 75, 97), (59, 76, 98)]
/-- the shape: the cells, the references that never change, the text at hand and the one to be read into -/
def Sg (t : Nat) (σ : Mm) : Prop := (mKs σ = KS ∨ mKs σ = KS ++ [(12, 1)]) ∧ (∀ q ∈ RT, mR σ q.1 q.2.1 = some q.2.2) ∧ (t = 3 ∨ t = 15) ∧ mR σ 0 1 = some t ∧ mR σ 1 9 = some (18 - t)
section Shape
variable {t a j b : Nat} {σ : Mm}
theorem Sg.k (h : Sg t σ) {k : Nat × Nat} (hk : KS[a]? = some k) : mK σ a = some k := by
  unfold mK
  rcases h.1 with e | e
  · rw [e]
    exact hk
  · rw [e]
    exact (List.getElem?_append_left (List.getElem?_eq_some_iff.mp hk).1).trans hk
theorem Sg.r (h : Sg t σ) (hq : (a, j, b) ∈ RT) : mR σ a j = some b := h.2.1 _ hq
theorem Sg.told (h : Sg t σ) : mR σ 0 1 = some t := h.2.2.2.1
theorem Sg.into (h : Sg t σ) : mR σ 1 9 = some (18 - t) := h.2.2.2.2
theorem Sg.tt (h : Sg t σ) : t = 3 ∨ t = 15 := h.2.2.1
theorem Sg.ti (h : Sg t σ) : 18 - t = 3 ∨ 18 - t = 15 := by
  rcases h.2.2.1 with rfl | rfl
  · exact Or.inr rfl
  · exact Or.inl rfl
theorem sc_none {σ : Mm} (h : Sg t σ) (ha : 100 ≤ a) : mK σ a = none := by
  unfold mK
  rcases h.1 with e | e
  · rw [e]
    exact List.getElem?_eq_none (Nat.le_trans (by decide) ha)
  · rw [e]
    exact List.getElem?_eq_none (Nat.le_trans (by decide) ha)
theorem rt_0_0 : (0, 0, 1) ∈ RT := by decide
theorem rt_0_2 : (0, 2, 26) ∈ RT := by decide
theorem rt_0_3 : (0, 3, 30) ∈ RT := by decide
theorem rt_0_4 : (0, 4, 34) ∈ RT := by decide
theorem rt_0_6 : (0, 6, 38) ∈ RT := by decide
theorem rt_0_7 : (0, 7, 41) ∈ RT := by decide
theorem rt_0_8 : (0, 8, 49) ∈ RT := by decide
theorem rt_0_9 : (0, 9, 53) ∈ RT := by decide
theorem rt_0_10 : (0, 10, 56) ∈ RT := by decide
theorem rt_1_3 : (1, 3, 2) ∈ RT := by decide
theorem rt_1_11 : (1, 11, 14) ∈ RT := by decide
theorem rt_3_8 : (3, 8, 4) ∈ RT := by decide
theorem rt_3_9 : (3, 9, 5) ∈ RT := by decide
theorem rt_3_10 : (3, 10, 6) ∈ RT := by decide
theorem rt_3_11 : (3, 11, 7) ∈ RT := by decide
theorem rt_3_12 : (3, 12, 8) ∈ RT := by decide
theorem rt_3_13 : (3, 13, 9) ∈ RT := by decide
theorem rt_3_14 : (3, 14, 10) ∈ RT := by decide
theorem rt_3_15 : (3, 15, 11) ∈ RT := by decide
theorem rt_3_16 : (3, 16, 12) ∈ RT := by decide
theorem rt_3_17 : (3, 17, 13) ∈ RT := by decide
theorem rt_15_8 : (15, 8, 16) ∈ RT := by decide
theorem rt_15_9 : (15, 9, 17) ∈ RT := by decide
theorem rt_15_10 : (15, 10, 18) ∈ RT := by decide
theorem rt_15_11 : (15, 11, 19) ∈ RT := by decide
theorem rt_15_12 : (15, 12, 20) ∈ RT := by decide
theorem rt_15_13 : (15, 13, 21) ∈ RT := by decide
theorem rt_15_14 : (15, 14, 22) ∈ RT := by decide
theorem rt_15_15 : (15, 15, 23) ∈ RT := by decide
theorem rt_15_16 : (15, 16, 24) ∈ RT := by decide
theorem rt_15_17 : (15, 17, 25) ∈ RT := by decide
theorem rt_26_7 : (26, 7, 27) ∈ RT := by decide
theorem rt_26_8 : (26, 8, 28) ∈ RT := by decide
theorem rt_26_9 : (26, 9, 29) ∈ RT := by decide
theorem rt_30_7 : (30, 7, 31) ∈ RT := by decide
theorem rt_30_8 : (30, 8, 32) ∈ RT := by decide
theorem rt_30_9 : (30, 9, 33) ∈ RT := by decide
theorem rt_34_7 : (34, 7, 35) ∈ RT := by decide
theorem rt_34_8 : (34, 8, 36) ∈ RT := by decide
theorem rt_34_9 : (34, 9, 37) ∈ RT := by decide
theorem rt_38_5 : (38, 5, 39) ∈ RT := by decide
theorem rt_38_6 : (38, 6, 40) ∈ RT := by decide
theorem rt_41_2 : (41, 2, 42) ∈ RT := by decide
theorem rt_41_3 : (41, 3, 43) ∈ RT := by decide
theorem rt_41_4 : (41, 4, 44) ∈ RT := by decide
theorem rt_41_5 : (41, 5, 45) ∈ RT := by decide
theorem rt_41_6 : (41, 6, 46) ∈ RT := by decide
theorem rt_41_7 : (41, 7, 47) ∈ RT := by decide
theorem rt_41_8 : (41, 8, 48) ∈ RT := by decide
theorem rt_49_10 : (49, 10, 50) ∈ RT := by decide
theorem rt_49_11 : (49, 11, 51) ∈ RT := by decide
theorem rt_49_12 : (49, 12, 52) ∈ RT := by decide
theorem rt_53_1 : (53, 1, 54) ∈ RT := by decide
theorem rt_53_3 : (53, 3, 55) ∈ RT := by decide
theorem rt_56_0 : (56, 0, 57) ∈ RT := by decide
theorem rt_56_1 : (56, 1, 58) ∈ RT := by decide
theorem rt_59_0 : (59, 0, 60) ∈ RT := by decide
theorem rt_59_3 : (59, 3, 61) ∈ RT := by decide
theorem rt_59_22 : (59, 22, 62) ∈ RT := by decide
theorem rt_59_23 : (59, 23, 63) ∈ RT := by decide
theorem rt_59_24 : (59, 24, 64) ∈ RT := by decide
theorem rt_59_25 : (59, 25, 65) ∈ RT := by decide
theorem rt_59_26 : (59, 26, 66) ∈ RT := by decide
theorem rt_59_27 : (59, 27, 67) ∈ RT := by decide
theorem rt_59_28 : (59, 28, 68) ∈ RT := by decide
theorem rt_59_29 : (59, 29, 69) ∈ RT := by decide
theorem rt_59_30 : (59, 30, 70) ∈ RT := by decide
theorem rt_59_31 : (59, 31, 71) ∈ RT := by decide
theorem rt_59_32 : (59, 32, 72) ∈ RT := by decide
theorem rt_59_33 : (59, 33, 73) ∈ RT := by decide
theorem rt_59_34 : (59, 34, 74) ∈ RT := by decide
theorem rt_59_35 : (59, 35, 75) ∈ RT := by decide
theorem rt_59_36 : (59, 36, 76) ∈ RT := by decide
theorem rt_59_37 : (59, 37, 77) ∈ RT := by decide
theorem rt_59_38 : (59, 38, 78) ∈ RT := by decide
theorem rt_59_39 : (59, 39, 79) ∈ RT := by decide
theorem rt_59_46 : (59, 46, 80) ∈ RT := by decide
theorem rt_59_47 : (59, 47, 81) ∈ RT := by decide
theorem rt_59_49 : (59, 49, 82) ∈ RT := by decide
theorem rt_59_50 : (59, 50, 83) ∈ RT := by decide
theorem rt_59_51 : (59, 51, 84) ∈ RT := by decide
theorem rt_59_52 : (59, 52, 85) ∈ RT := by decide
theorem rt_59_53 : (59, 53, 86) ∈ RT := by decide
theorem rt_59_54 : (59, 54, 87) ∈ RT := by decide
theorem rt_59_55 : (59, 55, 88) ∈ RT := by decide
theorem rt_59_56 : (59, 56, 89) ∈ RT := by decide
theorem rt_59_57 : (59, 57, 90) ∈ RT := by decide
theorem rt_59_64 : (59, 64, 91) ∈ RT := by decide
theorem rt_59_66 : (59, 66, 92) ∈ RT := by decide
theorem rt_59_67 : (59, 67, 93) ∈ RT := by decide
theorem rt_59_70 : (59, 70, 94) ∈ RT := by decide
theorem rt_59_71 : (59, 71, 95) ∈ RT := by decide
theorem rt_59_73 : (59, 73, 96) ∈ RT := by decide
theorem rt_59_75 : (59, 75, 97) ∈ RT := by decide
theorem rt_59_76 : (59, 76, 98) ∈ RT := by decide
theorem kT (h : a = 3 ∨ a = 15) : KS[a]? = some (6, 18) := by rcases h with rfl | rfl <;> rfl
theorem kT1 (h : a = 3 ∨ a = 15) : KS[a + 1]? = some (11, 14) := by rcases h with rfl | rfl <;> rfl
theorem Sg.rT8 (hS : Sg t σ) (h : a = 3 ∨ a = 15) : mR σ a 8 = some (a + 1) := by
  rcases h with rfl | rfl
  · exact hS.r rt_3_8
  · exact hS.r rt_15_8
theorem kT2 (h : a = 3 ∨ a = 15) : KS[a + 2]? = some (11, 10) := by rcases h with rfl | rfl <;> rfl
theorem Sg.rT9 (hS : Sg t σ) (h : a = 3 ∨ a = 15) : mR σ a 9 = some (a + 2) := by
  rcases h with rfl | rfl
  · exact hS.r rt_3_9
  · exact hS.r rt_15_9
theorem kT3 (h : a = 3 ∨ a = 15) : KS[a + 3]? = some (11, 10) := by rcases h with rfl | rfl <;> rfl
theorem Sg.rT10 (hS : Sg t σ) (h : a = 3 ∨ a = 15) : mR σ a 10 = some (a + 3) := by
  rcases h with rfl | rfl
  · exact hS.r rt_3_10
  · exact hS.r rt_15_10
theorem kT4 (h : a = 3 ∨ a = 15) : KS[a + 4]? = some (11, 10) := by rcases h with rfl | rfl <;> rfl
theorem Sg.rT11 (hS : Sg t σ) (h : a = 3 ∨ a = 15) : mR σ a 11 = some (a + 4) := by
  rcases h with rfl | rfl
  · exact hS.r rt_3_11
  · exact hS.r rt_15_11
theorem kT5 (h : a = 3 ∨ a = 15) : KS[a + 5]? = some (11, 14) := by rcases h with rfl | rfl <;> rfl
theorem Sg.rT12 (hS : Sg t σ) (h : a = 3 ∨ a = 15) : mR σ a 12 = some (a + 5) := by
  rcases h with rfl | rfl
  · exact hS.r rt_3_12
  · exact hS.r rt_15_12
theorem kT6 (h : a = 3 ∨ a = 15) : KS[a + 6]? = some (11, 14) := by rcases h with rfl | rfl <;> rfl
theorem Sg.rT13 (hS : Sg t σ) (h : a = 3 ∨ a = 15) : mR σ a 13 = some (a + 6) := by
  rcases h with rfl | rfl
  · exact hS.r rt_3_13
  · exact hS.r rt_15_13
theorem kT7 (h : a = 3 ∨ a = 15) : KS[a + 7]? = some (11, 4) := by rcases h with rfl | rfl <;> rfl
theorem Sg.rT14 (hS : Sg t σ) (h : a = 3 ∨ a = 15) : mR σ a 14 = some (a + 7) := by
  rcases h with rfl | rfl
  · exact hS.r rt_3_14
  · exact hS.r rt_15_14
theorem kT8 (h : a = 3 ∨ a = 15) : KS[a + 8]? = some (11, 64) := by rcases h with rfl | rfl <;> rfl
theorem Sg.rT15 (hS : Sg t σ) (h : a = 3 ∨ a = 15) : mR σ a 15 = some (a + 8) := by
  rcases h with rfl | rfl
  · exact hS.r rt_3_15
  · exact hS.r rt_15_15
theorem kT9 (h : a = 3 ∨ a = 15) : KS[a + 9]? = some (11, 3) := by rcases h with rfl | rfl <;> rfl
theorem Sg.rT16 (hS : Sg t σ) (h : a = 3 ∨ a = 15) : mR σ a 16 = some (a + 9) := by
  rcases h with rfl | rfl
  · exact hS.r rt_3_16
  · exact hS.r rt_15_16
theorem kT10 (h : a = 3 ∨ a = 15) : KS[a + 10]? = some (11, 3) := by rcases h with rfl | rfl <;> rfl
theorem Sg.rT17 (hS : Sg t σ) (h : a = 3 ∨ a = 15) : mR σ a 17 = some (a + 10) := by
  rcases h with rfl | rfl
  · exact hS.r rt_3_17
  · exact hS.r rt_15_17
theorem kH (h : a = 26 ∨ a = 30 ∨ a = 34) : KS[a]? = some (2, 10) := by rcases h with rfl | rfl | rfl <;> rfl
theorem kH1 (h : a = 26 ∨ a = 30 ∨ a = 34) : KS[a + 1]? = some (11, 14) := by rcases h with rfl | rfl | rfl <;> rfl
theorem Sg.rH7 (hS : Sg t σ) (h : a = 26 ∨ a = 30 ∨ a = 34) : mR σ a 7 = some (a + 1) := by
  rcases h with rfl | rfl | rfl
  · exact hS.r rt_26_7
  · exact hS.r rt_30_7
  · exact hS.r rt_34_7
theorem kH2 (h : a = 26 ∨ a = 30 ∨ a = 34) : KS[a + 2]? = some (11, 10) := by rcases h with rfl | rfl | rfl <;> rfl
theorem Sg.rH8 (hS : Sg t σ) (h : a = 26 ∨ a = 30 ∨ a = 34) : mR σ a 8 = some (a + 2) := by
  rcases h with rfl | rfl | rfl
  · exact hS.r rt_26_8
  · exact hS.r rt_30_8
  · exact hS.r rt_34_8
theorem kH3 (h : a = 26 ∨ a = 30 ∨ a = 34) : KS[a + 3]? = some (11, 10) := by rcases h with rfl | rfl | rfl <;> rfl
theorem Sg.rH9 (hS : Sg t σ) (h : a = 26 ∨ a = 30 ∨ a = 34) : mR σ a 9 = some (a + 3) := by
  rcases h with rfl | rfl | rfl
  · exact hS.r rt_26_9
  · exact hS.r rt_30_9
  · exact hS.r rt_34_9
end Shape
theorem ci_m16 : Int32.ofInt (-16) = (-16) := by decide
theorem ci_m8 : Int32.ofInt (-8) = (-8) := by decide
theorem ci_m4 : Int32.ofInt (-4) = (-4) := by decide
theorem ci_m2 : Int32.ofInt (-2) = (-2) := by decide
theorem ci_m1 : Int32.ofInt (-1) = (-1) := by decide
theorem ci_0 : Int32.ofInt 0 = 0 := by decide
theorem ci_1 : Int32.ofInt 1 = 1 := by decide
theorem ci_2 : Int32.ofInt 2 = 2 := by decide
theorem ci_3 : Int32.ofInt 3 = 3 := by decide
theorem ci_4 : Int32.ofInt 4 = 4 := by decide
theorem ci_5 : Int32.ofInt 5 = 5 := by decide
theorem ci_6 : Int32.ofInt 6 = 6 := by decide
theorem ci_8 : Int32.ofInt 8 = 8 := by decide
theorem ci_16 : Int32.ofInt 16 = 16 := by decide
theorem cb_m2 : (Int8.ofInt (-2)).toInt32 = (-2) := by decide
theorem cb_6 : (Int8.ofInt 6).toInt32 = 6 := by decide
theorem cb_7 : (Int8.ofInt 7).toInt32 = 7 := by decide
theorem cb_8 : (Int8.ofInt 8).toInt32 = 8 := by decide
theorem cb_9 : (Int8.ofInt 9).toInt32 = 9 := by decide
theorem cb_10 : (Int8.ofInt 10).toInt32 = 10 := by decide
theorem cb_11 : (Int8.ofInt 11).toInt32 = 11 := by decide
theorem cb_12 : (Int8.ofInt 12).toInt32 = 12 := by decide
theorem cb_13 : (Int8.ofInt 13).toInt32 = 13 := by decide
theorem cb_14 : (Int8.ofInt 14).toInt32 = 14 := by decide
theorem cb_15 : (Int8.ofInt 15).toInt32 = 15 := by decide
theorem cb_16 : (Int8.ofInt 16).toInt32 = 16 := by decide
theorem cb_17 : (Int8.ofInt 17).toInt32 = 17 := by decide
theorem cb_18 : (Int8.ofInt 18).toInt32 = 18 := by decide
theorem cb_19 : (Int8.ofInt 19).toInt32 = 19 := by decide
theorem cb_20 : (Int8.ofInt 20).toInt32 = 20 := by decide
theorem cb_21 : (Int8.ofInt 21).toInt32 = 21 := by decide
theorem cb_22 : (Int8.ofInt 22).toInt32 = 22 := by decide
theorem cb_23 : (Int8.ofInt 23).toInt32 = 23 := by decide
theorem cb_24 : (Int8.ofInt 24).toInt32 = 24 := by decide
theorem cb_25 : (Int8.ofInt 25).toInt32 = 25 := by decide
theorem cb_26 : (Int8.ofInt 26).toInt32 = 26 := by decide
theorem cb_27 : (Int8.ofInt 27).toInt32 = 27 := by decide
theorem cb_28 : (Int8.ofInt 28).toInt32 = 28 := by decide
theorem cb_29 : (Int8.ofInt 29).toInt32 = 29 := by decide
theorem cb_30 : (Int8.ofInt 30).toInt32 = 30 := by decide
theorem cb_31 : (Int8.ofInt 31).toInt32 = 31 := by decide
theorem cb_32 : (Int8.ofInt 32).toInt32 = 32 := by decide
theorem cb_33 : (Int8.ofInt 33).toInt32 = 33 := by decide
theorem cb_34 : (Int8.ofInt 34).toInt32 = 34 := by decide
theorem cb_35 : (Int8.ofInt 35).toInt32 = 35 := by decide
theorem cb_36 : (Int8.ofInt 36).toInt32 = 36 := by decide
theorem cb_37 : (Int8.ofInt 37).toInt32 = 37 := by decide
theorem cb_38 : (Int8.ofInt 38).toInt32 = 38 := by decide
theorem cb_39 : (Int8.ofInt 39).toInt32 = 39 := by decide
theorem cb_40 : (Int8.ofInt 40).toInt32 = 40 := by decide
theorem cb_41 : (Int8.ofInt 41).toInt32 = 41 := by decide
theorem cb_42 : (Int8.ofInt 42).toInt32 = 42 := by decide
theorem cb_43 : (Int8.ofInt 43).toInt32 = 43 := by decide
theorem cb_44 : (Int8.ofInt 44).toInt32 = 44 := by decide
theorem cb_45 : (Int8.ofInt 45).toInt32 = 45 := by decide
theorem cb_46 : (Int8.ofInt 46).toInt32 = 46 := by decide
theorem cb_47 : (Int8.ofInt 47).toInt32 = 47 := by decide
theorem cb_48 : (Int8.ofInt 48).toInt32 = 48 := by decide
theorem cb_49 : (Int8.ofInt 49).toInt32 = 49 := by decide
theorem cb_50 : (Int8.ofInt 50).toInt32 = 50 := by decide
theorem cb_51 : (Int8.ofInt 51).toInt32 = 51 := by decide
theorem cb_52 : (Int8.ofInt 52).toInt32 = 52 := by decide
theorem cb_53 : (Int8.ofInt 53).toInt32 = 53 := by decide
theorem cb_54 : (Int8.ofInt 54).toInt32 = 54 := by decide
theorem cb_55 : (Int8.ofInt 55).toInt32 = 55 := by decide
theorem cb_56 : (Int8.ofInt 56).toInt32 = 56 := by decide
theorem cb_57 : (Int8.ofInt 57).toInt32 = 57 := by decide
theorem cb_58 : (Int8.ofInt 58).toInt32 = 58 := by decide
theorem cb_59 : (Int8.ofInt 59).toInt32 = 59 := by decide
theorem cb_60 : (Int8.ofInt 60).toInt32 = 60 := by decide
theorem cb_61 : (Int8.ofInt 61).toInt32 = 61 := by decide
theorem cb_62 : (Int8.ofInt 62).toInt32 = 62 := by decide
theorem cb_63 : (Int8.ofInt 63).toInt32 = 63 := by decide
theorem cb_64 : (Int8.ofInt 64).toInt32 = 64 := by decide
theorem cb_65 : (Int8.ofInt 65).toInt32 = 65 := by decide
theorem cb_66 : (Int8.ofInt 66).toInt32 = 66 := by decide
theorem cb_67 : (Int8.ofInt 67).toInt32 = 67 := by decide
theorem cb_68 : (Int8.ofInt 68).toInt32 = 68 := by decide
theorem cb_69 : (Int8.ofInt 69).toInt32 = 69 := by decide
theorem cb_70 : (Int8.ofInt 70).toInt32 = 70 := by decide
theorem cb_71 : (Int8.ofInt 71).toInt32 = 71 := by decide
theorem cb_72 : (Int8.ofInt 72).toInt32 = 72 := by decide
theorem cb_73 : (Int8.ofInt 73).toInt32 = 73 := by decide
theorem cb_74 : (Int8.ofInt 74).toInt32 = 74 := by decide
theorem cb_75 : (Int8.ofInt 75).toInt32 = 75 := by decide
theorem cb_76 : (Int8.ofInt 76).toInt32 = 76 := by decide
theorem cb_77 : (Int8.ofInt 77).toInt32 = 77 := by decide
theorem cb_78 : (Int8.ofInt 78).toInt32 = 78 := by decide
theorem cb_79 : (Int8.ofInt 79).toInt32 = 79 := by decide
theorem cb_80 : (Int8.ofInt 80).toInt32 = 80 := by decide
theorem cb_81 : (Int8.ofInt 81).toInt32 = 81 := by decide
theorem cb_82 : (Int8.ofInt 82).toInt32 = 82 := by decide
theorem cb_83 : (Int8.ofInt 83).toInt32 = 83 := by decide
theorem cb_84 : (Int8.ofInt 84).toInt32 = 84 := by decide
theorem cb_85 : (Int8.ofInt 85).toInt32 = 85 := by decide
theorem cb_86 : (Int8.ofInt 86).toInt32 = 86 := by decide
theorem cb_87 : (Int8.ofInt 87).toInt32 = 87 := by decide
theorem cb_88 : (Int8.ofInt 88).toInt32 = 88 := by decide
theorem cb_89 : (Int8.ofInt 89).toInt32 = 89 := by decide
theorem cb_90 : (Int8.ofInt 90).toInt32 = 90 := by decide
theorem cb_91 : (Int8.ofInt 91).toInt32 = 91 := by decide
theorem cb_92 : (Int8.ofInt 92).toInt32 = 92 := by decide
theorem cb_93 : (Int8.ofInt 93).toInt32 = 93 := by decide
theorem cb_94 : (Int8.ofInt 94).toInt32 = 94 := by decide
theorem cb_95 : (Int8.ofInt 95).toInt32 = 95 := by decide
theorem cb_96 : (Int8.ofInt 96).toInt32 = 96 := by decide
theorem cb_97 : (Int8.ofInt 97).toInt32 = 97 := by decide
theorem cb_98 : (Int8.ofInt 98).toInt32 = 98 := by decide
theorem cb_99 : (Int8.ofInt 99).toInt32 = 99 := by decide
theorem cb_100 : (Int8.ofInt 100).toInt32 = 100 := by decide
theorem cb_101 : (Int8.ofInt 101).toInt32 = 101 := by decide
theorem cb_102 : (Int8.ofInt 102).toInt32 = 102 := by decide
theorem cb_103 : (Int8.ofInt 103).toInt32 = 103 := by decide
theorem cb_104 : (Int8.ofInt 104).toInt32 = 104 := by decide
theorem cb_105 : (Int8.ofInt 105).toInt32 = 105 := by decide
theorem cb_107 : (Int8.ofInt 107).toInt32 = 107 := by decide
theorem cb_108 : (Int8.ofInt 108).toInt32 = 108 := by decide
theorem cb_109 : (Int8.ofInt 109).toInt32 = 109 := by decide
theorem cb_110 : (Int8.ofInt 110).toInt32 = 110 := by decide
theorem cb_111 : (Int8.ofInt 111).toInt32 = 111 := by decide
theorem cb_112 : (Int8.ofInt 112).toInt32 = 112 := by decide
theorem cb_114 : (Int8.ofInt 114).toInt32 = 114 := by decide
theorem cb_115 : (Int8.ofInt 115).toInt32 = 115 := by decide
theorem cb_116 : (Int8.ofInt 116).toInt32 = 116 := by decide
theorem cb_117 : (Int8.ofInt 117).toInt32 = 117 := by decide
theorem cb_119 : (Int8.ofInt 119).toInt32 = 119 := by decide
theorem cb_122 : (Int8.ofInt 122).toInt32 = 122 := by decide
theorem cs_128 : (Int16.ofInt 128).toInt32 = 128 := by decide
theorem cs_199 : (Int16.ofInt 199).toInt32 = 199 := by decide
theorem cs_200 : (Int16.ofInt 200).toInt32 = 200 := by decide
theorem cs_255 : (Int16.ofInt 255).toInt32 = 255 := by decide
theorem cs_256 : (Int16.ofInt 256).toInt32 = 256 := by decide
theorem cs_456 : (Int16.ofInt 456).toInt32 = 456 := by decide
theorem cs_480 : (Int16.ofInt 480).toInt32 = 480 := by decide
theorem cs_700 : (Int16.ofInt 700).toInt32 = 700 := by decide
theorem cs_999 : (Int16.ofInt 999).toInt32 = 999 := by decide
theorem cs_1023 : (Int16.ofInt 1023).toInt32 = 1023 := by decide
theorem cs_1024 : (Int16.ofInt 1024).toInt32 = 1024 := by decide
theorem cs_9000 : (Int16.ofInt 9000).toInt32 = 9000 := by decide
theorem cs_9999 : (Int16.ofInt 9999).toInt32 = 9999 := by decide
theorem cs_10000 : (Int16.ofInt 10000).toInt32 = 10000 := by decide
theorem cs_12345 : (Int16.ofInt 12345).toInt32 = 12345 := by decide
theorem cl_0 : Int64.ofNat (0 : Fin 2).val = 0 := by decide
theorem cl_1 : Int64.ofNat (1 : Fin 2).val = 1 := by decide
theorem pI_4_100 : cstI 4 100 = some 1000000 := by decide +kernel
theorem pI_4_191 : cstI 4 191 = some 99999 := by decide +kernel
theorem pI_11_265 : cstI 11 265 = some 1431655765 := by decide +kernel
theorem pI_11_266 : cstI 11 266 = some 858993459 := by decide +kernel
theorem pI_11_267 : cstI 11 267 = some 252645135 := by decide +kernel
theorem pI_1_112 : cstI 1 112 = some 99999 := by decide +kernel
theorem pI_2_68 : cstI 2 68 = some 1103515245 := by decide +kernel
theorem pI_2_69 : cstI 2 69 = some 2147483647 := by decide +kernel
theorem pI_2_70 : cstI 2 70 = some 65536 := by decide +kernel
theorem pI_11_264 : cstI 11 264 = some 65536 := by decide +kernel
theorem pI_9_180 : cstI 9 180 = some 99999 := by decide +kernel
theorem pL_8_167 : cstL 8 167 = some (-9223372036854775808) := by decide +kernel
theorem pL_1_90 : cstL 1 90 = some (-9223372036854775808) := by decide +kernel
theorem pL_1_176 : cstL 1 176 = some 1000000000000 := by decide +kernel
theorem pL_1_178 : cstL 1 178 = some (-1000000000000) := by decide +kernel
theorem pL_1_95 : cstL 1 95 = some 999 := by decide +kernel
theorem pL_1_128 : cstL 1 128 = some 100 := by decide +kernel
theorem pL_8_279 : cstL 8 279 = some (-1) := by decide +kernel
theorem pL_9_448 : cstL 9 448 = some (-9223372036854775808) := by decide +kernel
theorem pL_9_339 : cstL 9 339 = some 1000000000000 := by decide +kernel
theorem pL_9_341 : cstL 9 341 = some (-1000000000000) := by decide +kernel
theorem pL_9_416 : cstL 9 416 = some 1103515245 := by decide +kernel
theorem pL_9_418 : cstL 9 418 = some 12345 := by decide +kernel
theorem pL_9_420 : cstL 9 420 = some 2147483647 := by decide +kernel
theorem pL_9_422 : cstL 9 422 = some 65536 := by decide +kernel
theorem pL_9_498 : cstL 9 498 = some (-1) := by decide +kernel
theorem pL_9_500 : cstL 9 500 = some 100 := by decide +kernel
theorem pF_6_49 : fld 6 49 = some (6, 0, 0) := by decide +kernel
theorem pF_1_67 : fld 1 67 = some (6, 0, 0) := by decide +kernel
theorem pF_4_143 : fld 4 143 = some (6, 0, 0) := by decide +kernel
theorem pF_8_259 : fld 8 259 = some (6, 0, 0) := by decide +kernel
theorem pF_6_52 : fld 6 52 = some (6, 1, 0) := by decide +kernel
theorem pF_2_52 : fld 2 52 = some (6, 1, 0) := by decide +kernel
theorem pF_1_77 : fld 1 77 = some (6, 1, 0) := by decide +kernel
theorem pF_4_116 : fld 4 116 = some (6, 1, 0) := by decide +kernel
theorem pF_8_262 : fld 8 262 = some (6, 1, 0) := by decide +kernel
theorem pF_2_25 : fld 2 25 = some (6, 2, 0) := by decide +kernel
theorem pF_6_55 : fld 6 55 = some (6, 2, 0) := by decide +kernel
theorem pF_4_167 : fld 4 167 = some (6, 2, 0) := by decide +kernel
theorem pF_8_344 : fld 8 344 = some (6, 2, 0) := by decide +kernel
theorem pF_6_58 : fld 6 58 = some (6, 3, 0) := by decide +kernel
theorem pF_1_54 : fld 1 54 = some (6, 3, 0) := by decide +kernel
theorem pF_4_170 : fld 4 170 = some (6, 3, 0) := by decide +kernel
theorem pF_8_326 : fld 8 326 = some (6, 3, 0) := by decide +kernel
theorem pF_6_61 : fld 6 61 = some (6, 4, 0) := by decide +kernel
theorem pF_4_179 : fld 4 179 = some (6, 4, 0) := by decide +kernel
theorem pF_6_42 : fld 6 42 = some (6, 5, 0) := by decide +kernel
theorem pF_4_185 : fld 4 185 = some (6, 5, 0) := by decide +kernel
theorem pF_6_46 : fld 6 46 = some (6, 6, 0) := by decide +kernel
theorem pF_4_188 : fld 4 188 = some (6, 6, 0) := by decide +kernel
theorem pF_6_64 : fld 6 64 = some (6, 7, 0) := by decide +kernel
theorem pF_4_198 : fld 4 198 = some (6, 7, 0) := by decide +kernel
theorem pF_8_329 : fld 8 329 = some (6, 7, 0) := by decide +kernel
theorem pF_6_9 : fld 6 9 = some (6, 8, 2) := by decide +kernel
theorem pF_4_149 : fld 4 149 = some (6, 8, 2) := by decide +kernel
theorem pF_6_15 : fld 6 15 = some (6, 9, 2) := by decide +kernel
theorem pF_4_155 : fld 4 155 = some (6, 9, 2) := by decide +kernel
theorem pF_6_18 : fld 6 18 = some (6, 10, 2) := by decide +kernel
theorem pF_1_92 : fld 1 92 = some (6, 10, 2) := by decide +kernel
theorem pF_8_151 : fld 8 151 = some (6, 10, 2) := by decide +kernel
theorem pF_4_161 : fld 4 161 = some (6, 10, 2) := by decide +kernel
theorem pF_6_21 : fld 6 21 = some (6, 11, 2) := by decide +kernel
theorem pF_2_55 : fld 2 55 = some (6, 11, 2) := by decide +kernel
theorem pF_4_164 : fld 4 164 = some (6, 11, 2) := by decide +kernel
theorem pF_8_343 : fld 8 343 = some (6, 11, 2) := by decide +kernel
theorem pF_6_24 : fld 6 24 = some (6, 12, 2) := by decide +kernel
theorem pF_1_60 : fld 1 60 = some (6, 12, 2) := by decide +kernel
theorem pF_4_173 : fld 4 173 = some (6, 12, 2) := by decide +kernel
theorem pF_6_27 : fld 6 27 = some (6, 13, 2) := by decide +kernel
theorem pF_1_57 : fld 1 57 = some (6, 13, 2) := by decide +kernel
theorem pF_4_176 : fld 4 176 = some (6, 13, 2) := by decide +kernel
theorem pF_6_30 : fld 6 30 = some (6, 14, 2) := by decide +kernel
theorem pF_4_182 : fld 4 182 = some (6, 14, 2) := by decide +kernel
theorem pF_6_33 : fld 6 33 = some (6, 15, 2) := by decide +kernel
theorem pF_1_158 : fld 1 158 = some (6, 15, 2) := by decide +kernel
theorem pF_4_248 : fld 4 248 = some (6, 15, 2) := by decide +kernel
theorem pF_6_36 : fld 6 36 = some (6, 16, 2) := by decide +kernel
theorem pF_1_152 : fld 1 152 = some (6, 16, 2) := by decide +kernel
theorem pF_4_195 : fld 4 195 = some (6, 16, 2) := by decide +kernel
theorem pF_6_39 : fld 6 39 = some (6, 17, 2) := by decide +kernel
theorem pF_1_155 : fld 1 155 = some (6, 17, 2) := by decide +kernel
theorem pF_4_204 : fld 4 204 = some (6, 17, 2) := by decide +kernel
theorem pF_8_95 : fld 8 95 = some (4, 0, 0) := by decide +kernel
theorem pF_4_51 : fld 4 51 = some (4, 0, 0) := by decide +kernel
theorem pF_4_26 : fld 4 26 = some (4, 1, 0) := by decide +kernel
theorem pF_8_109 : fld 8 109 = some (4, 1, 0) := by decide +kernel
theorem pF_8_77 : fld 8 77 = some (4, 2, 0) := by decide +kernel
theorem pF_4_30 : fld 4 30 = some (4, 2, 0) := by decide +kernel
theorem pF_4_9 : fld 4 9 = some (4, 3, 2) := by decide +kernel
theorem pF_4_39 : fld 4 39 = some (4, 4, 0) := by decide +kernel
theorem pF_4_42 : fld 4 42 = some (4, 5, 0) := by decide +kernel
theorem pF_4_57 : fld 4 57 = some (4, 6, 0) := by decide +kernel
theorem pF_4_60 : fld 4 60 = some (4, 7, 0) := by decide +kernel
theorem pF_4_67 : fld 4 67 = some (4, 8, 0) := by decide +kernel
theorem pF_4_18 : fld 4 18 = some (4, 9, 2) := by decide +kernel
theorem pF_4_48 : fld 4 48 = some (4, 10, 0) := by decide +kernel
theorem pF_4_22 : fld 4 22 = some (4, 11, 2) := by decide +kernel
theorem pF_4_207 : fld 4 207 = some (4, 12, 0) := by decide +kernel
theorem pF_4_210 : fld 4 210 = some (4, 13, 0) := by decide +kernel
theorem pF_4_213 : fld 4 213 = some (4, 14, 0) := by decide +kernel
theorem pF_4_216 : fld 4 216 = some (4, 15, 3) := by decide +kernel
theorem pF_4_220 : fld 4 220 = some (4, 16, 3) := by decide +kernel
theorem pF_2_21 : fld 2 21 = some (2, 0, 0) := by decide +kernel
theorem pF_1_40 : fld 1 40 = some (2, 0, 0) := by decide +kernel
theorem pF_8_192 : fld 8 192 = some (2, 0, 0) := by decide +kernel
theorem pF_2_30 : fld 2 30 = some (2, 1, 0) := by decide +kernel
theorem pF_7_40 : fld 7 40 = some (2, 1, 0) := by decide +kernel
theorem pF_8_130 : fld 8 130 = some (2, 1, 0) := by decide +kernel
theorem pF_1_106 : fld 1 106 = some (2, 1, 0) := by decide +kernel
theorem pF_2_33 : fld 2 33 = some (2, 2, 0) := by decide +kernel
theorem pF_7_45 : fld 7 45 = some (2, 2, 0) := by decide +kernel
theorem pF_8_133 : fld 8 133 = some (2, 2, 0) := by decide +kernel
theorem pF_1_133 : fld 1 133 = some (2, 2, 0) := by decide +kernel
theorem pF_2_36 : fld 2 36 = some (2, 3, 0) := by decide +kernel
theorem pF_7_48 : fld 7 48 = some (2, 3, 0) := by decide +kernel
theorem pF_1_80 : fld 1 80 = some (2, 3, 0) := by decide +kernel
theorem pF_8_154 : fld 8 154 = some (2, 3, 0) := by decide +kernel
theorem pF_2_39 : fld 2 39 = some (2, 4, 0) := by decide +kernel
theorem pF_7_51 : fld 7 51 = some (2, 4, 0) := by decide +kernel
theorem pF_1_113 : fld 1 113 = some (2, 4, 0) := by decide +kernel
theorem pF_8_205 : fld 8 205 = some (2, 4, 0) := by decide +kernel
theorem pF_2_42 : fld 2 42 = some (2, 5, 0) := by decide +kernel
theorem pF_1_83 : fld 1 83 = some (2, 5, 0) := by decide +kernel
theorem pF_8_208 : fld 8 208 = some (2, 5, 0) := by decide +kernel
theorem pF_2_49 : fld 2 49 = some (2, 6, 0) := by decide +kernel
theorem pF_8_315 : fld 8 315 = some (2, 6, 0) := by decide +kernel
theorem pF_2_9 : fld 2 9 = some (2, 7, 2) := by decide +kernel
theorem pF_8_136 : fld 8 136 = some (2, 7, 2) := by decide +kernel
theorem pF_1_122 : fld 1 122 = some (2, 7, 2) := by decide +kernel
theorem pF_2_15 : fld 2 15 = some (2, 8, 2) := by decide +kernel
theorem pF_7_54 : fld 7 54 = some (2, 8, 2) := by decide +kernel
theorem pF_1_109 : fld 1 109 = some (2, 8, 2) := by decide +kernel
theorem pF_8_160 : fld 8 160 = some (2, 8, 2) := by decide +kernel
theorem pF_2_18 : fld 2 18 = some (2, 9, 2) := by decide +kernel
theorem pF_7_55 : fld 7 55 = some (2, 9, 2) := by decide +kernel
theorem pF_1_119 : fld 1 119 = some (2, 9, 2) := by decide +kernel
theorem pF_8_157 : fld 8 157 = some (2, 9, 2) := by decide +kernel
theorem pF_1_19 : fld 1 19 = some (1, 0, 3) := by decide +kernel
theorem pF_1_27 : fld 1 27 = some (1, 1, 3) := by decide +kernel
theorem pF_1_30 : fld 1 30 = some (1, 2, 3) := by decide +kernel
theorem pF_1_37 : fld 1 37 = some (1, 3, 3) := by decide +kernel
theorem pF_1_33 : fld 1 33 = some (1, 4, 0) := by decide +kernel
theorem pF_1_9 : fld 1 9 = some (1, 5, 2) := by decide +kernel
theorem pF_1_15 : fld 1 15 = some (1, 6, 2) := by decide +kernel
theorem pF_7_33 : fld 7 33 = some (7, 0, 0) := by decide +kernel
theorem pF_8_338 : fld 8 338 = some (7, 0, 0) := by decide +kernel
theorem pF_7_37 : fld 7 37 = some (7, 1, 0) := by decide +kernel
theorem pF_7_9 : fld 7 9 = some (7, 2, 2) := by decide +kernel
theorem pF_7_15 : fld 7 15 = some (7, 3, 2) := by decide +kernel
theorem pF_7_18 : fld 7 18 = some (7, 4, 2) := by decide +kernel
theorem pF_7_21 : fld 7 21 = some (7, 5, 2) := by decide +kernel
theorem pF_7_24 : fld 7 24 = some (7, 6, 2) := by decide +kernel
theorem pF_7_27 : fld 7 27 = some (7, 7, 2) := by decide +kernel
theorem pF_7_30 : fld 7 30 = some (7, 8, 2) := by decide +kernel
theorem pF_3_26 : fld 3 26 = some (3, 0, 0) := by decide +kernel
theorem pF_8_291 : fld 8 291 = some (3, 0, 0) := by decide +kernel
theorem pF_3_22 : fld 3 22 = some (3, 1, 0) := by decide +kernel
theorem pF_8_294 : fld 8 294 = some (3, 1, 0) := by decide +kernel
theorem pF_3_36 : fld 3 36 = some (3, 2, 0) := by decide +kernel
theorem pF_8_300 : fld 8 300 = some (3, 2, 0) := by decide +kernel
theorem pF_3_39 : fld 3 39 = some (3, 3, 0) := by decide +kernel
theorem pF_8_303 : fld 8 303 = some (3, 3, 0) := by decide +kernel
theorem pF_3_42 : fld 3 42 = some (3, 4, 0) := by decide +kernel
theorem pF_8_309 : fld 8 309 = some (3, 4, 0) := by decide +kernel
theorem pF_3_45 : fld 3 45 = some (3, 5, 0) := by decide +kernel
theorem pF_8_306 : fld 8 306 = some (3, 5, 0) := by decide +kernel
theorem pF_3_58 : fld 3 58 = some (3, 6, 0) := by decide +kernel
theorem pF_3_61 : fld 3 61 = some (3, 7, 0) := by decide +kernel
theorem pF_3_64 : fld 3 64 = some (3, 8, 0) := by decide +kernel
theorem pF_3_67 : fld 3 67 = some (3, 9, 0) := by decide +kernel
theorem pF_3_9 : fld 3 9 = some (3, 10, 2) := by decide +kernel
theorem pF_3_15 : fld 3 15 = some (3, 11, 2) := by decide +kernel
theorem pF_3_18 : fld 3 18 = some (3, 12, 2) := by decide +kernel
theorem pF_5_18 : fld 5 18 = some (5, 0, 0) := by decide +kernel
theorem pF_3_48 : fld 3 48 = some (5, 0, 0) := by decide +kernel
theorem pF_5_9 : fld 5 9 = some (5, 1, 2) := by decide +kernel
theorem pF_3_51 : fld 3 51 = some (5, 1, 2) := by decide +kernel
theorem pF_5_22 : fld 5 22 = some (5, 2, 0) := by decide +kernel
theorem pF_5_15 : fld 5 15 = some (5, 3, 2) := by decide +kernel
theorem pF_0_9 : fld 0 9 = some (0, 0, 2) := by decide +kernel
theorem pF_0_15 : fld 0 15 = some (0, 1, 2) := by decide +kernel
theorem pF_0_22 : fld 0 22 = some (0, 2, 0) := by decide +kernel
theorem pF_0_32 : fld 0 32 = some (0, 3, 0) := by decide +kernel
theorem pF_8_14 : fld 8 14 = some (8, 0, 2) := by decide +kernel
theorem pF_8_21 : fld 8 21 = some (8, 1, 2) := by decide +kernel
theorem pF_8_28 : fld 8 28 = some (8, 2, 2) := by decide +kernel
theorem pF_8_32 : fld 8 32 = some (8, 3, 2) := by decide +kernel
theorem pF_8_35 : fld 8 35 = some (8, 4, 2) := by decide +kernel
theorem pF_8_73 : fld 8 73 = some (8, 5, 3) := by decide +kernel
theorem pF_8_41 : fld 8 41 = some (8, 6, 2) := by decide +kernel
theorem pF_8_48 : fld 8 48 = some (8, 7, 2) := by decide +kernel
theorem pF_8_55 : fld 8 55 = some (8, 8, 2) := by decide +kernel
theorem pF_8_62 : fld 8 62 = some (8, 9, 2) := by decide +kernel
theorem pF_8_69 : fld 8 69 = some (8, 10, 2) := by decide +kernel
theorem pF_9_7 : fld 9 7 = some (9, 0, 2) := by decide +kernel
theorem pF_9_145 : fld 9 145 = some (9, 1, 0) := by decide +kernel
theorem pF_9_142 : fld 9 142 = some (9, 2, 0) := by decide +kernel
theorem pF_9_13 : fld 9 13 = some (9, 3, 2) := by decide +kernel
theorem pF_9_148 : fld 9 148 = some (9, 4, 0) := by decide +kernel
theorem pF_9_16 : fld 9 16 = some (9, 5, 0) := by decide +kernel
theorem pF_9_154 : fld 9 154 = some (9, 6, 0) := by decide +kernel
theorem pF_9_157 : fld 9 157 = some (9, 7, 0) := by decide +kernel
theorem pF_9_160 : fld 9 160 = some (9, 8, 0) := by decide +kernel
theorem pF_9_171 : fld 9 171 = some (9, 9, 0) := by decide +kernel
theorem pF_9_151 : fld 9 151 = some (9, 10, 0) := by decide +kernel
theorem pF_9_191 : fld 9 191 = some (9, 11, 0) := by decide +kernel
theorem pF_9_222 : fld 9 222 = some (9, 12, 0) := by decide +kernel
theorem pF_9_225 : fld 9 225 = some (9, 13, 0) := by decide +kernel
theorem pF_9_228 : fld 9 228 = some (9, 14, 0) := by decide +kernel
theorem pF_9_231 : fld 9 231 = some (9, 15, 0) := by decide +kernel
theorem pF_9_234 : fld 9 234 = some (9, 16, 0) := by decide +kernel
theorem pF_9_204 : fld 9 204 = some (9, 17, 0) := by decide +kernel
theorem pF_9_207 : fld 9 207 = some (9, 18, 0) := by decide +kernel
theorem pF_9_210 : fld 9 210 = some (9, 19, 0) := by decide +kernel
theorem pF_9_213 : fld 9 213 = some (9, 20, 0) := by decide +kernel
theorem pF_9_216 : fld 9 216 = some (9, 21, 0) := by decide +kernel
theorem pF_9_20 : fld 9 20 = some (9, 22, 2) := by decide +kernel
theorem pF_9_23 : fld 9 23 = some (9, 23, 2) := by decide +kernel
theorem pF_9_27 : fld 9 27 = some (9, 24, 2) := by decide +kernel
theorem pF_9_30 : fld 9 30 = some (9, 25, 2) := by decide +kernel
theorem pF_9_33 : fld 9 33 = some (9, 26, 2) := by decide +kernel
theorem pF_9_36 : fld 9 36 = some (9, 27, 2) := by decide +kernel
theorem pF_9_39 : fld 9 39 = some (9, 28, 2) := by decide +kernel
theorem pF_9_42 : fld 9 42 = some (9, 29, 2) := by decide +kernel
theorem pF_9_45 : fld 9 45 = some (9, 30, 2) := by decide +kernel
theorem pF_9_48 : fld 9 48 = some (9, 31, 2) := by decide +kernel
theorem pF_9_51 : fld 9 51 = some (9, 32, 2) := by decide +kernel
theorem pF_9_54 : fld 9 54 = some (9, 33, 2) := by decide +kernel
theorem pF_9_57 : fld 9 57 = some (9, 34, 2) := by decide +kernel
theorem pF_9_60 : fld 9 60 = some (9, 35, 2) := by decide +kernel
theorem pF_9_63 : fld 9 63 = some (9, 36, 2) := by decide +kernel
theorem pF_9_66 : fld 9 66 = some (9, 37, 2) := by decide +kernel
theorem pF_9_69 : fld 9 69 = some (9, 38, 2) := by decide +kernel
theorem pF_9_72 : fld 9 72 = some (9, 39, 2) := by decide +kernel
theorem pF_9_289 : fld 9 289 = some (9, 40, 0) := by decide +kernel
theorem pF_9_286 : fld 9 286 = some (9, 41, 0) := by decide +kernel
theorem pF_9_304 : fld 9 304 = some (9, 42, 0) := by decide +kernel
theorem pF_9_219 : fld 9 219 = some (9, 43, 0) := by decide +kernel
theorem pF_9_324 : fld 9 324 = some (9, 44, 3) := by decide +kernel
theorem pF_9_311 : fld 9 311 = some (9, 45, 3) := by decide +kernel
theorem pF_9_75 : fld 9 75 = some (9, 46, 2) := by decide +kernel
theorem pF_9_79 : fld 9 79 = some (9, 47, 2) := by decide +kernel
theorem pF_9_336 : fld 9 336 = some (9, 48, 3) := by decide +kernel
theorem pF_9_82 : fld 9 82 = some (9, 49, 2) := by decide +kernel
theorem pF_9_85 : fld 9 85 = some (9, 50, 2) := by decide +kernel
theorem pF_9_88 : fld 9 88 = some (9, 51, 2) := by decide +kernel
theorem pF_9_91 : fld 9 91 = some (9, 52, 2) := by decide +kernel
theorem pF_9_94 : fld 9 94 = some (9, 53, 2) := by decide +kernel
theorem pF_9_97 : fld 9 97 = some (9, 54, 2) := by decide +kernel
theorem pF_9_100 : fld 9 100 = some (9, 55, 2) := by decide +kernel
theorem pF_9_103 : fld 9 103 = some (9, 56, 2) := by decide +kernel
theorem pF_9_106 : fld 9 106 = some (9, 57, 2) := by decide +kernel
theorem pF_9_358 : fld 9 358 = some (9, 58, 1) := by decide +kernel
theorem pF_9_374 : fld 9 374 = some (9, 59, 3) := by decide +kernel
theorem pF_9_377 : fld 9 377 = some (9, 60, 3) := by decide +kernel
theorem pF_9_380 : fld 9 380 = some (9, 61, 3) := by decide +kernel
theorem pF_9_383 : fld 9 383 = some (9, 62, 3) := by decide +kernel
theorem pF_9_386 : fld 9 386 = some (9, 63, 0) := by decide +kernel
theorem pF_9_109 : fld 9 109 = some (9, 64, 2) := by decide +kernel
theorem pF_9_459 : fld 9 459 = some (9, 65, 0) := by decide +kernel
theorem pF_9_112 : fld 9 112 = some (9, 66, 2) := by decide +kernel
theorem pF_9_115 : fld 9 115 = some (9, 67, 2) := by decide +kernel
theorem pF_9_365 : fld 9 365 = some (9, 68, 0) := by decide +kernel
theorem pF_9_118 : fld 9 118 = some (9, 69, 0) := by decide +kernel
theorem pF_9_121 : fld 9 121 = some (9, 70, 2) := by decide +kernel
theorem pF_9_124 : fld 9 124 = some (9, 71, 2) := by decide +kernel
theorem pF_9_368 : fld 9 368 = some (9, 72, 0) := by decide +kernel
theorem pF_9_127 : fld 9 127 = some (9, 73, 2) := by decide +kernel
theorem pF_9_371 : fld 9 371 = some (9, 74, 3) := by decide +kernel
theorem pF_9_130 : fld 9 130 = some (9, 75, 2) := by decide +kernel
theorem pF_9_133 : fld 9 133 = some (9, 76, 2) := by decide +kernel
theorem pF_9_523 : fld 9 523 = some (9, 77, 1) := by decide +kernel
theorem pN_10_8 : newT 10 8 = some (8, 11) := by decide +kernel
theorem pN_8_11 : newT 8 11 = some (4, 17) := by decide +kernel
theorem pN_4_15 : newT 4 15 = some (6, 18) := by decide +kernel
theorem pN_8_18 : newT 8 18 = some (6, 18) := by decide +kernel
theorem pN_8_25 : newT 8 25 = some (2, 10) := by decide +kernel
theorem pN_8_38 : newT 8 38 = some (1, 7) := by decide +kernel
theorem pN_8_45 : newT 8 45 = some (7, 9) := by decide +kernel
theorem pN_8_52 : newT 8 52 = some (3, 13) := by decide +kernel
theorem pN_8_59 : newT 8 59 = some (5, 4) := by decide +kernel
theorem pN_8_66 : newT 8 66 = some (0, 4) := by decide +kernel
theorem pN_10_18 : newT 10 18 = some (9, 78) := by decide +kernel
theorem oo_0 : oM 0 = 0 := by decide +kernel
theorem xx_0 : xM 0 = 1 := by decide +kernel
theorem rr_0 : rM 0 = none := by decide +kernel
theorem oo_1 : oM 1 = 0 := by decide +kernel
theorem xx_1 : xM 1 = 7 := by decide +kernel
theorem rr_1 : rM 1 = some .int := by decide +kernel
theorem oo_2 : oM 2 = 0 := by decide +kernel
theorem xx_2 : xM 2 = 2 := by decide +kernel
theorem rr_2 : rM 2 = some .int := by decide +kernel
theorem oo_3 : oM 3 = 0 := by decide +kernel
theorem xx_3 : xM 3 = 3 := by decide +kernel
theorem rr_3 : rM 3 = none := by decide +kernel
theorem oo_4 : oM 4 = 1 := by decide +kernel
theorem xx_4 : xM 4 = 1 := by decide +kernel
theorem rr_4 : rM 4 = none := by decide +kernel
theorem oo_5 : oM 5 = 1 := by decide +kernel
theorem xx_5 : xM 5 = 1 := by decide +kernel
theorem rr_5 : rM 5 = none := by decide +kernel
theorem oo_6 : oM 6 = 1 := by decide +kernel
theorem xx_6 : xM 6 = 1 := by decide +kernel
theorem rr_6 : rM 6 = none := by decide +kernel
theorem oo_7 : oM 7 = 1 := by decide +kernel
theorem xx_7 : xM 7 = 3 := by decide +kernel
theorem rr_7 : rM 7 = none := by decide +kernel
theorem oo_8 : oM 8 = 1 := by decide +kernel
theorem xx_8 : xM 8 = 6 := by decide +kernel
theorem rr_8 : rM 8 = none := by decide +kernel
theorem oo_9 : oM 9 = 1 := by decide +kernel
theorem xx_9 : xM 9 = 8 := by decide +kernel
theorem rr_9 : rM 9 = none := by decide +kernel
theorem oo_10 : oM 10 = 1 := by decide +kernel
theorem xx_10 : xM 10 = 8 := by decide +kernel
theorem rr_10 : rM 10 = none := by decide +kernel
theorem oo_11 : oM 11 = 1 := by decide +kernel
theorem xx_11 : xM 11 = 6 := by decide +kernel
theorem rr_11 : rM 11 = some .long := by decide +kernel
theorem oo_12 : oM 12 = 1 := by decide +kernel
theorem xx_12 : xM 12 = 7 := by decide +kernel
theorem rr_12 : rM 12 = some .long := by decide +kernel
theorem oo_13 : oM 13 = 1 := by decide +kernel
theorem xx_13 : xM 13 = 5 := by decide +kernel
theorem rr_13 : rM 13 = some .long := by decide +kernel
theorem oo_14 : oM 14 = 1 := by decide +kernel
theorem xx_14 : xM 14 = 1 := by decide +kernel
theorem rr_14 : rM 14 = some .long := by decide +kernel
theorem oo_15 : oM 15 = 1 := by decide +kernel
theorem xx_15 : xM 15 = 2 := by decide +kernel
theorem rr_15 : rM 15 = some .long := by decide +kernel
theorem oo_16 : oM 16 = 1 := by decide +kernel
theorem xx_16 : xM 16 = 4 := by decide +kernel
theorem rr_16 : rM 16 = some .long := by decide +kernel
theorem oo_17 : oM 17 = 2 := by decide +kernel
theorem xx_17 : xM 17 = 1 := by decide +kernel
theorem rr_17 : rM 17 = none := by decide +kernel
theorem oo_18 : oM 18 = 2 := by decide +kernel
theorem xx_18 : xM 18 = 3 := by decide +kernel
theorem rr_18 : rM 18 = none := by decide +kernel
theorem oo_19 : oM 19 = 2 := by decide +kernel
theorem xx_19 : xM 19 = 2 := by decide +kernel
theorem rr_19 : rM 19 = none := by decide +kernel
theorem oo_20 : oM 20 = 2 := by decide +kernel
theorem xx_20 : xM 20 = 1 := by decide +kernel
theorem rr_20 : rM 20 = some .int := by decide +kernel
theorem oo_21 : oM 21 = 2 := by decide +kernel
theorem xx_21 : xM 21 = 2 := by decide +kernel
theorem rr_21 : rM 21 = some .int := by decide +kernel
theorem oo_22 : oM 22 = 2 := by decide +kernel
theorem xx_22 : xM 22 = 4 := by decide +kernel
theorem rr_22 : rM 22 = some .int := by decide +kernel
theorem oo_23 : oM 23 = 2 := by decide +kernel
theorem xx_23 : xM 23 = 3 := by decide +kernel
theorem rr_23 : rM 23 = some .int := by decide +kernel
theorem oo_24 : oM 24 = 2 := by decide +kernel
theorem xx_24 : xM 24 = 1 := by decide +kernel
theorem rr_24 : rM 24 = none := by decide +kernel
theorem oo_25 : oM 25 = 2 := by decide +kernel
theorem xx_25 : xM 25 = 1 := by decide +kernel
theorem rr_25 : rM 25 = some .int := by decide +kernel
theorem oo_26 : oM 26 = 3 := by decide +kernel
theorem xx_26 : xM 26 = 1 := by decide +kernel
theorem rr_26 : rM 26 = none := by decide +kernel
theorem oo_27 : oM 27 = 3 := by decide +kernel
theorem xx_27 : xM 27 = 1 := by decide +kernel
theorem rr_27 : rM 27 = none := by decide +kernel
theorem oo_28 : oM 28 = 3 := by decide +kernel
theorem xx_28 : xM 28 = 4 := by decide +kernel
theorem rr_28 : rM 28 = some .int := by decide +kernel
theorem oo_29 : oM 29 = 3 := by decide +kernel
theorem xx_29 : xM 29 = 2 := by decide +kernel
theorem rr_29 : rM 29 = some .int := by decide +kernel
theorem oo_30 : oM 30 = 3 := by decide +kernel
theorem xx_30 : xM 30 = 1 := by decide +kernel
theorem rr_30 : rM 30 = some .int := by decide +kernel
theorem oo_31 : oM 31 = 3 := by decide +kernel
theorem xx_31 : xM 31 = 6 := by decide +kernel
theorem rr_31 : rM 31 = some .int := by decide +kernel
theorem oo_32 : oM 32 = 3 := by decide +kernel
theorem xx_32 : xM 32 = 3 := by decide +kernel
theorem rr_32 : rM 32 = some .boolean := by decide +kernel
theorem oo_33 : oM 33 = 3 := by decide +kernel
theorem xx_33 : xM 33 = 3 := by decide +kernel
theorem rr_33 : rM 33 = none := by decide +kernel
theorem oo_34 : oM 34 = 3 := by decide +kernel
theorem xx_34 : xM 34 = 4 := by decide +kernel
theorem rr_34 : rM 34 = none := by decide +kernel
theorem oo_35 : oM 35 = 4 := by decide +kernel
theorem xx_35 : xM 35 = 1 := by decide +kernel
theorem rr_35 : rM 35 = none := by decide +kernel
theorem oo_36 : oM 36 = 4 := by decide +kernel
theorem xx_36 : xM 36 = 3 := by decide +kernel
theorem rr_36 : rM 36 = none := by decide +kernel
theorem oo_37 : oM 37 = 4 := by decide +kernel
theorem xx_37 : xM 37 = 3 := by decide +kernel
theorem rr_37 : rM 37 = some (.object "BellPulls$Told") := by decide +kernel
theorem oo_38 : oM 38 = 4 := by decide +kernel
theorem xx_38 : xM 38 = 2 := by decide +kernel
theorem rr_38 : rM 38 = none := by decide +kernel
theorem oo_39 : oM 39 = 4 := by decide +kernel
theorem xx_39 : xM 39 = 1 := by decide +kernel
theorem rr_39 : rM 39 = some .boolean := by decide +kernel
theorem oo_40 : oM 40 = 4 := by decide +kernel
theorem xx_40 : xM 40 = 2 := by decide +kernel
theorem rr_40 : rM 40 = some .boolean := by decide +kernel
theorem oo_41 : oM 41 = 4 := by decide +kernel
theorem xx_41 : xM 41 = 2 := by decide +kernel
theorem rr_41 : rM 41 = some .int := by decide +kernel
theorem oo_42 : oM 42 = 4 := by decide +kernel
theorem xx_42 : xM 42 = 1 := by decide +kernel
theorem rr_42 : rM 42 = some .boolean := by decide +kernel
theorem oo_43 : oM 43 = 4 := by decide +kernel
theorem xx_43 : xM 43 = 1 := by decide +kernel
theorem rr_43 : rM 43 = some .boolean := by decide +kernel
theorem oo_44 : oM 44 = 4 := by decide +kernel
theorem xx_44 : xM 44 = 1 := by decide +kernel
theorem rr_44 : rM 44 = none := by decide +kernel
theorem oo_45 : oM 45 = 4 := by decide +kernel
theorem xx_45 : xM 45 = 2 := by decide +kernel
theorem rr_45 : rM 45 = none := by decide +kernel
theorem oo_46 : oM 46 = 4 := by decide +kernel
theorem xx_46 : xM 46 = 5 := by decide +kernel
theorem rr_46 : rM 46 = some .int := by decide +kernel
theorem oo_47 : oM 47 = 4 := by decide +kernel
theorem xx_47 : xM 47 = 1 := by decide +kernel
theorem rr_47 : rM 47 = none := by decide +kernel
theorem oo_48 : oM 48 = 4 := by decide +kernel
theorem xx_48 : xM 48 = 4 := by decide +kernel
theorem rr_48 : rM 48 = none := by decide +kernel
theorem oo_49 : oM 49 = 4 := by decide +kernel
theorem xx_49 : xM 49 = 2 := by decide +kernel
theorem rr_49 : rM 49 = some .boolean := by decide +kernel
theorem oo_50 : oM 50 = 4 := by decide +kernel
theorem xx_50 : xM 50 = 2 := by decide +kernel
theorem rr_50 : rM 50 = some .boolean := by decide +kernel
theorem oo_51 : oM 51 = 4 := by decide +kernel
theorem xx_51 : xM 51 = 2 := by decide +kernel
theorem rr_51 : rM 51 = some .boolean := by decide +kernel
theorem oo_52 : oM 52 = 4 := by decide +kernel
theorem xx_52 : xM 52 = 2 := by decide +kernel
theorem rr_52 : rM 52 = some .boolean := by decide +kernel
theorem oo_53 : oM 53 = 4 := by decide +kernel
theorem xx_53 : xM 53 = 2 := by decide +kernel
theorem rr_53 : rM 53 = some .boolean := by decide +kernel
theorem oo_54 : oM 54 = 4 := by decide +kernel
theorem xx_54 : xM 54 = 5 := by decide +kernel
theorem rr_54 : rM 54 = some .boolean := by decide +kernel
theorem oo_55 : oM 55 = 4 := by decide +kernel
theorem xx_55 : xM 55 = 2 := by decide +kernel
theorem rr_55 : rM 55 = some .boolean := by decide +kernel
theorem oo_56 : oM 56 = 4 := by decide +kernel
theorem xx_56 : xM 56 = 3 := by decide +kernel
theorem rr_56 : rM 56 = some .boolean := by decide +kernel
theorem oo_57 : oM 57 = 4 := by decide +kernel
theorem xx_57 : xM 57 = 2 := by decide +kernel
theorem rr_57 : rM 57 = some .boolean := by decide +kernel
theorem oo_58 : oM 58 = 4 := by decide +kernel
theorem xx_58 : xM 58 = 1 := by decide +kernel
theorem rr_58 : rM 58 = some .boolean := by decide +kernel
theorem oo_59 : oM 59 = 4 := by decide +kernel
theorem xx_59 : xM 59 = 1 := by decide +kernel
theorem rr_59 : rM 59 = some .boolean := by decide +kernel
theorem oo_60 : oM 60 = 4 := by decide +kernel
theorem xx_60 : xM 60 = 2 := by decide +kernel
theorem rr_60 : rM 60 = some .boolean := by decide +kernel
theorem oo_61 : oM 61 = 4 := by decide +kernel
theorem xx_61 : xM 61 = 3 := by decide +kernel
theorem rr_61 : rM 61 = some .boolean := by decide +kernel
theorem oo_62 : oM 62 = 4 := by decide +kernel
theorem xx_62 : xM 62 = 1 := by decide +kernel
theorem rr_62 : rM 62 = some .boolean := by decide +kernel
theorem oo_63 : oM 63 = 4 := by decide +kernel
theorem xx_63 : xM 63 = 3 := by decide +kernel
theorem rr_63 : rM 63 = some .boolean := by decide +kernel
theorem oo_64 : oM 64 = 4 := by decide +kernel
theorem xx_64 : xM 64 = 1 := by decide +kernel
theorem rr_64 : rM 64 = some .boolean := by decide +kernel
theorem oo_65 : oM 65 = 4 := by decide +kernel
theorem xx_65 : xM 65 = 1 := by decide +kernel
theorem rr_65 : rM 65 = some .boolean := by decide +kernel
theorem oo_66 : oM 66 = 4 := by decide +kernel
theorem xx_66 : xM 66 = 2 := by decide +kernel
theorem rr_66 : rM 66 = some .boolean := by decide +kernel
theorem oo_67 : oM 67 = 4 := by decide +kernel
theorem xx_67 : xM 67 = 2 := by decide +kernel
theorem rr_67 : rM 67 = some .boolean := by decide +kernel
theorem oo_68 : oM 68 = 4 := by decide +kernel
theorem xx_68 : xM 68 = 2 := by decide +kernel
theorem rr_68 : rM 68 = none := by decide +kernel
theorem oo_69 : oM 69 = 4 := by decide +kernel
theorem xx_69 : xM 69 = 1 := by decide +kernel
theorem rr_69 : rM 69 = some .int := by decide +kernel
theorem oo_70 : oM 70 = 5 := by decide +kernel
theorem xx_70 : xM 70 = 1 := by decide +kernel
theorem rr_70 : rM 70 = none := by decide +kernel
theorem oo_71 : oM 71 = 5 := by decide +kernel
theorem xx_71 : xM 71 = 6 := by decide +kernel
theorem rr_71 : rM 71 = none := by decide +kernel
theorem oo_72 : oM 72 = 5 := by decide +kernel
theorem xx_72 : xM 72 = 2 := by decide +kernel
theorem rr_72 : rM 72 = some .int := by decide +kernel
theorem oo_73 : oM 73 = 5 := by decide +kernel
theorem xx_73 : xM 73 = 3 := by decide +kernel
theorem rr_73 : rM 73 = some .boolean := by decide +kernel
theorem oo_74 : oM 74 = 5 := by decide +kernel
theorem xx_74 : xM 74 = 4 := by decide +kernel
theorem rr_74 : rM 74 = some .int := by decide +kernel
theorem oo_75 : oM 75 = 5 := by decide +kernel
theorem xx_75 : xM 75 = 4 := by decide +kernel
theorem rr_75 : rM 75 = some .int := by decide +kernel
theorem oo_76 : oM 76 = 5 := by decide +kernel
theorem xx_76 : xM 76 = 3 := by decide +kernel
theorem rr_76 : rM 76 = some .int := by decide +kernel
theorem oo_77 : oM 77 = 5 := by decide +kernel
theorem xx_77 : xM 77 = 7 := by decide +kernel
theorem rr_77 : rM 77 = some .int := by decide +kernel
theorem oo_78 : oM 78 = 5 := by decide +kernel
theorem xx_78 : xM 78 = 4 := by decide +kernel
theorem rr_78 : rM 78 = some .int := by decide +kernel
theorem oo_79 : oM 79 = 5 := by decide +kernel
theorem xx_79 : xM 79 = 4 := by decide +kernel
theorem rr_79 : rM 79 = some .int := by decide +kernel
theorem oo_80 : oM 80 = 5 := by decide +kernel
theorem xx_80 : xM 80 = 4 := by decide +kernel
theorem rr_80 : rM 80 = some .int := by decide +kernel
theorem oo_81 : oM 81 = 5 := by decide +kernel
theorem xx_81 : xM 81 = 3 := by decide +kernel
theorem rr_81 : rM 81 = some .int := by decide +kernel
theorem oo_82 : oM 82 = 5 := by decide +kernel
theorem xx_82 : xM 82 = 6 := by decide +kernel
theorem rr_82 : rM 82 = some .int := by decide +kernel
theorem oo_83 : oM 83 = 5 := by decide +kernel
theorem xx_83 : xM 83 = 3 := by decide +kernel
theorem rr_83 : rM 83 = some .int := by decide +kernel
theorem oo_84 : oM 84 = 5 := by decide +kernel
theorem xx_84 : xM 84 = 6 := by decide +kernel
theorem rr_84 : rM 84 = some .int := by decide +kernel
theorem oo_85 : oM 85 = 5 := by decide +kernel
theorem xx_85 : xM 85 = 3 := by decide +kernel
theorem rr_85 : rM 85 = some .int := by decide +kernel
theorem oo_86 : oM 86 = 5 := by decide +kernel
theorem xx_86 : xM 86 = 5 := by decide +kernel
theorem rr_86 : rM 86 = some .int := by decide +kernel
theorem oo_87 : oM 87 = 6 := by decide +kernel
theorem xx_87 : xM 87 = 1 := by decide +kernel
theorem rr_87 : rM 87 = none := by decide +kernel
theorem oo_88 : oM 88 = 6 := by decide +kernel
theorem xx_88 : xM 88 = 2 := by decide +kernel
theorem rr_88 : rM 88 = none := by decide +kernel
theorem oo_89 : oM 89 = 6 := by decide +kernel
theorem xx_89 : xM 89 = 3 := by decide +kernel
theorem rr_89 : rM 89 = some .int := by decide +kernel
theorem oo_90 : oM 90 = 6 := by decide +kernel
theorem xx_90 : xM 90 = 3 := by decide +kernel
theorem rr_90 : rM 90 = some .int := by decide +kernel
theorem oo_91 : oM 91 = 6 := by decide +kernel
theorem xx_91 : xM 91 = 2 := by decide +kernel
theorem rr_91 : rM 91 = some .boolean := by decide +kernel
theorem oo_92 : oM 92 = 6 := by decide +kernel
theorem xx_92 : xM 92 = 1 := by decide +kernel
theorem rr_92 : rM 92 = some .int := by decide +kernel
theorem oo_93 : oM 93 = 6 := by decide +kernel
theorem xx_93 : xM 93 = 1 := by decide +kernel
theorem rr_93 : rM 93 = some .int := by decide +kernel
theorem oo_94 : oM 94 = 6 := by decide +kernel
theorem xx_94 : xM 94 = 3 := by decide +kernel
theorem rr_94 : rM 94 = some .boolean := by decide +kernel
theorem oo_95 : oM 95 = 6 := by decide +kernel
theorem xx_95 : xM 95 = 4 := by decide +kernel
theorem rr_95 : rM 95 = some .int := by decide +kernel
theorem oo_96 : oM 96 = 7 := by decide +kernel
theorem xx_96 : xM 96 = 1 := by decide +kernel
theorem rr_96 : rM 96 = none := by decide +kernel
theorem oo_97 : oM 97 = 7 := by decide +kernel
theorem xx_97 : xM 97 = 1 := by decide +kernel
theorem rr_97 : rM 97 = none := by decide +kernel
theorem oo_98 : oM 98 = 7 := by decide +kernel
theorem xx_98 : xM 98 = 4 := by decide +kernel
theorem rr_98 : rM 98 = none := by decide +kernel
theorem oo_99 : oM 99 = 7 := by decide +kernel
theorem xx_99 : xM 99 = 3 := by decide +kernel
theorem rr_99 : rM 99 = some .int := by decide +kernel
theorem oo_100 : oM 100 = 8 := by decide +kernel
theorem xx_100 : xM 100 = 1 := by decide +kernel
theorem rr_100 : rM 100 = none := by decide +kernel
theorem oo_101 : oM 101 = 8 := by decide +kernel
theorem xx_101 : xM 101 = 6 := by decide +kernel
theorem rr_101 : rM 101 = some .int := by decide +kernel
theorem oo_102 : oM 102 = 8 := by decide +kernel
theorem xx_102 : xM 102 = 3 := by decide +kernel
theorem rr_102 : rM 102 = some .int := by decide +kernel
theorem oo_103 : oM 103 = 8 := by decide +kernel
theorem xx_103 : xM 103 = 2 := by decide +kernel
theorem rr_103 : rM 103 = some .int := by decide +kernel
theorem oo_104 : oM 104 = 8 := by decide +kernel
theorem xx_104 : xM 104 = 3 := by decide +kernel
theorem rr_104 : rM 104 = some .int := by decide +kernel
theorem oo_105 : oM 105 = 8 := by decide +kernel
theorem xx_105 : xM 105 = 3 := by decide +kernel
theorem rr_105 : rM 105 = some .int := by decide +kernel
theorem oo_106 : oM 106 = 8 := by decide +kernel
theorem xx_106 : xM 106 = 2 := by decide +kernel
theorem rr_106 : rM 106 = some .int := by decide +kernel
theorem oo_107 : oM 107 = 8 := by decide +kernel
theorem xx_107 : xM 107 = 4 := by decide +kernel
theorem rr_107 : rM 107 = some .long := by decide +kernel
theorem oo_108 : oM 108 = 8 := by decide +kernel
theorem xx_108 : xM 108 = 2 := by decide +kernel
theorem rr_108 : rM 108 = some .int := by decide +kernel
theorem oo_109 : oM 109 = 8 := by decide +kernel
theorem xx_109 : xM 109 = 3 := by decide +kernel
theorem rr_109 : rM 109 = some .int := by decide +kernel
theorem oo_110 : oM 110 = 8 := by decide +kernel
theorem xx_110 : xM 110 = 1 := by decide +kernel
theorem rr_110 : rM 110 = some .boolean := by decide +kernel
theorem oo_111 : oM 111 = 8 := by decide +kernel
theorem xx_111 : xM 111 = 2 := by decide +kernel
theorem rr_111 : rM 111 = some .int := by decide +kernel
theorem oo_112 : oM 112 = 8 := by decide +kernel
theorem xx_112 : xM 112 = 3 := by decide +kernel
theorem rr_112 : rM 112 = some .int := by decide +kernel
theorem oo_113 : oM 113 = 8 := by decide +kernel
theorem xx_113 : xM 113 = 3 := by decide +kernel
theorem rr_113 : rM 113 = some .int := by decide +kernel
theorem oo_114 : oM 114 = 8 := by decide +kernel
theorem xx_114 : xM 114 = 2 := by decide +kernel
theorem rr_114 : rM 114 = some .int := by decide +kernel
theorem oo_115 : oM 115 = 8 := by decide +kernel
theorem xx_115 : xM 115 = 2 := by decide +kernel
theorem rr_115 : rM 115 = some .int := by decide +kernel
theorem oo_116 : oM 116 = 8 := by decide +kernel
theorem xx_116 : xM 116 = 4 := by decide +kernel
theorem rr_116 : rM 116 = some .int := by decide +kernel
theorem oo_117 : oM 117 = 8 := by decide +kernel
theorem xx_117 : xM 117 = 4 := by decide +kernel
theorem rr_117 : rM 117 = some .int := by decide +kernel
theorem oo_118 : oM 118 = 8 := by decide +kernel
theorem xx_118 : xM 118 = 1 := by decide +kernel
theorem rr_118 : rM 118 = some .int := by decide +kernel
theorem oo_119 : oM 119 = 8 := by decide +kernel
theorem xx_119 : xM 119 = 1 := by decide +kernel
theorem rr_119 : rM 119 = some .int := by decide +kernel
theorem oo_120 : oM 120 = 8 := by decide +kernel
theorem xx_120 : xM 120 = 3 := by decide +kernel
theorem rr_120 : rM 120 = some .int := by decide +kernel
theorem oo_121 : oM 121 = 8 := by decide +kernel
theorem xx_121 : xM 121 = 2 := by decide +kernel
theorem rr_121 : rM 121 = some .int := by decide +kernel
theorem oo_122 : oM 122 = 8 := by decide +kernel
theorem xx_122 : xM 122 = 4 := by decide +kernel
theorem rr_122 : rM 122 = some .int := by decide +kernel
theorem oo_123 : oM 123 = 8 := by decide +kernel
theorem xx_123 : xM 123 = 6 := by decide +kernel
theorem rr_123 : rM 123 = some .int := by decide +kernel
theorem oo_124 : oM 124 = 8 := by decide +kernel
theorem xx_124 : xM 124 = 4 := by decide +kernel
theorem rr_124 : rM 124 = some .int := by decide +kernel
theorem oo_125 : oM 125 = 8 := by decide +kernel
theorem xx_125 : xM 125 = 6 := by decide +kernel
theorem rr_125 : rM 125 = some .int := by decide +kernel
theorem oo_126 : oM 126 = 8 := by decide +kernel
theorem xx_126 : xM 126 = 4 := by decide +kernel
theorem rr_126 : rM 126 = some .int := by decide +kernel
theorem oo_127 : oM 127 = 8 := by decide +kernel
theorem xx_127 : xM 127 = 2 := by decide +kernel
theorem rr_127 : rM 127 = some .int := by decide +kernel
theorem oo_128 : oM 128 = 8 := by decide +kernel
theorem xx_128 : xM 128 = 4 := by decide +kernel
theorem rr_128 : rM 128 = some .int := by decide +kernel
theorem oo_129 : oM 129 = 8 := by decide +kernel
theorem xx_129 : xM 129 = 10 := by decide +kernel
theorem rr_129 : rM 129 = some .long := by decide +kernel
theorem oo_130 : oM 130 = 8 := by decide +kernel
theorem xx_130 : xM 130 = 5 := by decide +kernel
theorem rr_130 : rM 130 = some .int := by decide +kernel
theorem oo_131 : oM 131 = 8 := by decide +kernel
theorem xx_131 : xM 131 = 2 := by decide +kernel
theorem rr_131 : rM 131 = some .int := by decide +kernel
theorem oo_132 : oM 132 = 8 := by decide +kernel
theorem xx_132 : xM 132 = 2 := by decide +kernel
theorem rr_132 : rM 132 = some .boolean := by decide +kernel
theorem oo_133 : oM 133 = 8 := by decide +kernel
theorem xx_133 : xM 133 = 1 := by decide +kernel
theorem rr_133 : rM 133 = some .int := by decide +kernel
theorem oo_134 : oM 134 = 8 := by decide +kernel
theorem xx_134 : xM 134 = 2 := by decide +kernel
theorem rr_134 : rM 134 = some .int := by decide +kernel
theorem oo_135 : oM 135 = 8 := by decide +kernel
theorem xx_135 : xM 135 = 2 := by decide +kernel
theorem rr_135 : rM 135 = some .int := by decide +kernel
theorem oo_136 : oM 136 = 8 := by decide +kernel
theorem xx_136 : xM 136 = 7 := by decide +kernel
theorem rr_136 : rM 136 = some .int := by decide +kernel
theorem oo_137 : oM 137 = 8 := by decide +kernel
theorem xx_137 : xM 137 = 5 := by decide +kernel
theorem rr_137 : rM 137 = some .int := by decide +kernel
theorem oo_138 : oM 138 = 8 := by decide +kernel
theorem xx_138 : xM 138 = 1 := by decide +kernel
theorem rr_138 : rM 138 = some .int := by decide +kernel
theorem oo_139 : oM 139 = 8 := by decide +kernel
theorem xx_139 : xM 139 = 1 := by decide +kernel
theorem rr_139 : rM 139 = some .int := by decide +kernel
theorem oo_140 : oM 140 = 8 := by decide +kernel
theorem xx_140 : xM 140 = 1 := by decide +kernel
theorem rr_140 : rM 140 = some .int := by decide +kernel
theorem oo_141 : oM 141 = 8 := by decide +kernel
theorem xx_141 : xM 141 = 2 := by decide +kernel
theorem rr_141 : rM 141 = some .int := by decide +kernel
theorem oo_142 : oM 142 = 8 := by decide +kernel
theorem xx_142 : xM 142 = 2 := by decide +kernel
theorem rr_142 : rM 142 = some .boolean := by decide +kernel
theorem oo_143 : oM 143 = 8 := by decide +kernel
theorem xx_143 : xM 143 = 2 := by decide +kernel
theorem rr_143 : rM 143 = some .boolean := by decide +kernel
theorem oo_144 : oM 144 = 8 := by decide +kernel
theorem xx_144 : xM 144 = 2 := by decide +kernel
theorem rr_144 : rM 144 = some .boolean := by decide +kernel
theorem oo_145 : oM 145 = 8 := by decide +kernel
theorem xx_145 : xM 145 = 1 := by decide +kernel
theorem rr_145 : rM 145 = none := by decide +kernel
theorem oo_146 : oM 146 = 8 := by decide +kernel
theorem xx_146 : xM 146 = 1 := by decide +kernel
theorem rr_146 : rM 146 = some .int := by decide +kernel
theorem oo_147 : oM 147 = 8 := by decide +kernel
theorem xx_147 : xM 147 = 5 := by decide +kernel
theorem rr_147 : rM 147 = some .int := by decide +kernel
theorem oo_148 : oM 148 = 8 := by decide +kernel
theorem xx_148 : xM 148 = 1 := by decide +kernel
theorem rr_148 : rM 148 = some .int := by decide +kernel
theorem oo_149 : oM 149 = 9 := by decide +kernel
theorem xx_149 : xM 149 = 1 := by decide +kernel
theorem rr_149 : rM 149 = none := by decide +kernel
theorem oo_150 : oM 150 = 9 := by decide +kernel
theorem xx_150 : xM 150 = 1 := by decide +kernel
theorem rr_150 : rM 150 = some .int := by decide +kernel
theorem oo_151 : oM 151 = 9 := by decide +kernel
theorem xx_151 : xM 151 = 8 := by decide +kernel
theorem rr_151 : rM 151 = some .int := by decide +kernel
theorem oo_152 : oM 152 = 9 := by decide +kernel
theorem xx_152 : xM 152 = 3 := by decide +kernel
theorem rr_152 : rM 152 = some .boolean := by decide +kernel
theorem oo_153 : oM 153 = 9 := by decide +kernel
theorem xx_153 : xM 153 = 2 := by decide +kernel
theorem rr_153 : rM 153 = some .boolean := by decide +kernel
theorem oo_154 : oM 154 = 9 := by decide +kernel
theorem xx_154 : xM 154 = 2 := by decide +kernel
theorem rr_154 : rM 154 = some .boolean := by decide +kernel
theorem oo_155 : oM 155 = 9 := by decide +kernel
theorem xx_155 : xM 155 = 8 := by decide +kernel
theorem rr_155 : rM 155 = some .int := by decide +kernel
theorem oo_156 : oM 156 = 9 := by decide +kernel
theorem xx_156 : xM 156 = 2 := by decide +kernel
theorem rr_156 : rM 156 = some .boolean := by decide +kernel
theorem oo_157 : oM 157 = 9 := by decide +kernel
theorem xx_157 : xM 157 = 2 := by decide +kernel
theorem rr_157 : rM 157 = some .boolean := by decide +kernel
theorem oo_158 : oM 158 = 9 := by decide +kernel
theorem xx_158 : xM 158 = 1 := by decide +kernel
theorem rr_158 : rM 158 = none := by decide +kernel
theorem oo_159 : oM 159 = 9 := by decide +kernel
theorem xx_159 : xM 159 = 4 := by decide +kernel
theorem rr_159 : rM 159 = none := by decide +kernel
theorem oo_160 : oM 160 = 9 := by decide +kernel
theorem xx_160 : xM 160 = 5 := by decide +kernel
theorem rr_160 : rM 160 = some .int := by decide +kernel
theorem oo_161 : oM 161 = 9 := by decide +kernel
theorem xx_161 : xM 161 = 2 := by decide +kernel
theorem rr_161 : rM 161 = some .boolean := by decide +kernel
theorem oo_162 : oM 162 = 9 := by decide +kernel
theorem xx_162 : xM 162 = 2 := by decide +kernel
theorem rr_162 : rM 162 = some .boolean := by decide +kernel
theorem oo_163 : oM 163 = 9 := by decide +kernel
theorem xx_163 : xM 163 = 3 := by decide +kernel
theorem rr_163 : rM 163 = some .boolean := by decide +kernel
theorem oo_164 : oM 164 = 9 := by decide +kernel
theorem xx_164 : xM 164 = 2 := by decide +kernel
theorem rr_164 : rM 164 = none := by decide +kernel
theorem oo_165 : oM 165 = 9 := by decide +kernel
theorem xx_165 : xM 165 = 3 := by decide +kernel
theorem rr_165 : rM 165 = none := by decide +kernel
theorem oo_166 : oM 166 = 9 := by decide +kernel
theorem xx_166 : xM 166 = 2 := by decide +kernel
theorem rr_166 : rM 166 = none := by decide +kernel
theorem oo_167 : oM 167 = 9 := by decide +kernel
theorem xx_167 : xM 167 = 5 := by decide +kernel
theorem rr_167 : rM 167 = some .int := by decide +kernel
theorem oo_168 : oM 168 = 9 := by decide +kernel
theorem xx_168 : xM 168 = 4 := by decide +kernel
theorem rr_168 : rM 168 = some .boolean := by decide +kernel
theorem oo_169 : oM 169 = 9 := by decide +kernel
theorem xx_169 : xM 169 = 5 := by decide +kernel
theorem rr_169 : rM 169 = some .boolean := by decide +kernel
theorem oo_170 : oM 170 = 9 := by decide +kernel
theorem xx_170 : xM 170 = 1 := by decide +kernel
theorem rr_170 : rM 170 = some .boolean := by decide +kernel
theorem oo_171 : oM 171 = 9 := by decide +kernel
theorem xx_171 : xM 171 = 3 := by decide +kernel
theorem rr_171 : rM 171 = some .boolean := by decide +kernel
theorem oo_172 : oM 172 = 9 := by decide +kernel
theorem xx_172 : xM 172 = 2 := by decide +kernel
theorem rr_172 : rM 172 = some .boolean := by decide +kernel
theorem oo_173 : oM 173 = 9 := by decide +kernel
theorem xx_173 : xM 173 = 1 := by decide +kernel
theorem rr_173 : rM 173 = some .boolean := by decide +kernel
theorem oo_174 : oM 174 = 9 := by decide +kernel
theorem xx_174 : xM 174 = 2 := by decide +kernel
theorem rr_174 : rM 174 = some .boolean := by decide +kernel
theorem oo_175 : oM 175 = 9 := by decide +kernel
theorem xx_175 : xM 175 = 1 := by decide +kernel
theorem rr_175 : rM 175 = some .boolean := by decide +kernel
theorem oo_176 : oM 176 = 9 := by decide +kernel
theorem xx_176 : xM 176 = 3 := by decide +kernel
theorem rr_176 : rM 176 = some .boolean := by decide +kernel
theorem oo_177 : oM 177 = 9 := by decide +kernel
theorem xx_177 : xM 177 = 3 := by decide +kernel
theorem rr_177 : rM 177 = some .boolean := by decide +kernel
theorem oo_178 : oM 178 = 9 := by decide +kernel
theorem xx_178 : xM 178 = 3 := by decide +kernel
theorem rr_178 : rM 178 = some .int := by decide +kernel
theorem oo_179 : oM 179 = 9 := by decide +kernel
theorem xx_179 : xM 179 = 2 := by decide +kernel
theorem rr_179 : rM 179 = some .int := by decide +kernel
theorem oo_180 : oM 180 = 9 := by decide +kernel
theorem xx_180 : xM 180 = 3 := by decide +kernel
theorem rr_180 : rM 180 = some .int := by decide +kernel
theorem oo_181 : oM 181 = 9 := by decide +kernel
theorem xx_181 : xM 181 = 1 := by decide +kernel
theorem rr_181 : rM 181 = some .int := by decide +kernel
theorem oo_182 : oM 182 = 9 := by decide +kernel
theorem xx_182 : xM 182 = 4 := by decide +kernel
theorem rr_182 : rM 182 = none := by decide +kernel
theorem oo_183 : oM 183 = 9 := by decide +kernel
theorem xx_183 : xM 183 = 1 := by decide +kernel
theorem rr_183 : rM 183 = some .int := by decide +kernel
theorem oo_184 : oM 184 = 9 := by decide +kernel
theorem xx_184 : xM 184 = 5 := by decide +kernel
theorem rr_184 : rM 184 = none := by decide +kernel
theorem oo_185 : oM 185 = 9 := by decide +kernel
theorem xx_185 : xM 185 = 1 := by decide +kernel
theorem rr_185 : rM 185 = some .boolean := by decide +kernel
theorem oo_186 : oM 186 = 9 := by decide +kernel
theorem xx_186 : xM 186 = 2 := by decide +kernel
theorem rr_186 : rM 186 = none := by decide +kernel
theorem oo_187 : oM 187 = 9 := by decide +kernel
theorem xx_187 : xM 187 = 1 := by decide +kernel
theorem rr_187 : rM 187 = some .int := by decide +kernel
theorem oo_188 : oM 188 = 9 := by decide +kernel
theorem xx_188 : xM 188 = 2 := by decide +kernel
theorem rr_188 : rM 188 = some .boolean := by decide +kernel
theorem oo_189 : oM 189 = 9 := by decide +kernel
theorem xx_189 : xM 189 = 2 := by decide +kernel
theorem rr_189 : rM 189 = some .boolean := by decide +kernel
theorem oo_190 : oM 190 = 9 := by decide +kernel
theorem xx_190 : xM 190 = 1 := by decide +kernel
theorem rr_190 : rM 190 = some .boolean := by decide +kernel
theorem oo_191 : oM 191 = 9 := by decide +kernel
theorem xx_191 : xM 191 = 3 := by decide +kernel
theorem rr_191 : rM 191 = some .long := by decide +kernel
theorem oo_192 : oM 192 = 9 := by decide +kernel
theorem xx_192 : xM 192 = 5 := by decide +kernel
theorem rr_192 : rM 192 = some .boolean := by decide +kernel
theorem oo_193 : oM 193 = 9 := by decide +kernel
theorem xx_193 : xM 193 = 6 := by decide +kernel
theorem rr_193 : rM 193 = some .long := by decide +kernel
theorem oo_194 : oM 194 = 9 := by decide +kernel
theorem xx_194 : xM 194 = 6 := by decide +kernel
theorem rr_194 : rM 194 = some .long := by decide +kernel
theorem oo_195 : oM 195 = 9 := by decide +kernel
theorem xx_195 : xM 195 = 1 := by decide +kernel
theorem rr_195 : rM 195 = none := by decide +kernel
theorem oo_196 : oM 196 = 9 := by decide +kernel
theorem xx_196 : xM 196 = 3 := by decide +kernel
theorem rr_196 : rM 196 = none := by decide +kernel
theorem oo_197 : oM 197 = 9 := by decide +kernel
theorem xx_197 : xM 197 = 1 := by decide +kernel
theorem rr_197 : rM 197 = none := by decide +kernel
theorem oo_198 : oM 198 = 9 := by decide +kernel
theorem xx_198 : xM 198 = 2 := by decide +kernel
theorem rr_198 : rM 198 = none := by decide +kernel
theorem oo_199 : oM 199 = 9 := by decide +kernel
theorem xx_199 : xM 199 = 2 := by decide +kernel
theorem rr_199 : rM 199 = some .boolean := by decide +kernel
theorem oo_200 : oM 200 = 9 := by decide +kernel
theorem xx_200 : xM 200 = 2 := by decide +kernel
theorem rr_200 : rM 200 = some .boolean := by decide +kernel
theorem oo_201 : oM 201 = 9 := by decide +kernel
theorem xx_201 : xM 201 = 2 := by decide +kernel
theorem rr_201 : rM 201 = some .boolean := by decide +kernel
theorem oo_202 : oM 202 = 9 := by decide +kernel
theorem xx_202 : xM 202 = 3 := by decide +kernel
theorem rr_202 : rM 202 = some .int := by decide +kernel
theorem oo_203 : oM 203 = 9 := by decide +kernel
theorem xx_203 : xM 203 = 2 := by decide +kernel
theorem rr_203 : rM 203 = some .int := by decide +kernel
theorem oo_204 : oM 204 = 9 := by decide +kernel
theorem xx_204 : xM 204 = 6 := by decide +kernel
theorem rr_204 : rM 204 = some .int := by decide +kernel
theorem oo_205 : oM 205 = 9 := by decide +kernel
theorem xx_205 : xM 205 = 2 := by decide +kernel
theorem rr_205 : rM 205 = none := by decide +kernel
theorem oo_206 : oM 206 = 9 := by decide +kernel
theorem xx_206 : xM 206 = 3 := by decide +kernel
theorem rr_206 : rM 206 = none := by decide +kernel
theorem oo_207 : oM 207 = 9 := by decide +kernel
theorem xx_207 : xM 207 = 3 := by decide +kernel
theorem rr_207 : rM 207 = none := by decide +kernel
theorem oo_208 : oM 208 = 9 := by decide +kernel
theorem xx_208 : xM 208 = 3 := by decide +kernel
theorem rr_208 : rM 208 = some .long := by decide +kernel
theorem oo_209 : oM 209 = 9 := by decide +kernel
theorem xx_209 : xM 209 = 6 := by decide +kernel
theorem rr_209 : rM 209 = some .int := by decide +kernel
theorem oo_210 : oM 210 = 9 := by decide +kernel
theorem xx_210 : xM 210 = 5 := by decide +kernel
theorem rr_210 : rM 210 = none := by decide +kernel
theorem oo_211 : oM 211 = 9 := by decide +kernel
theorem xx_211 : xM 211 = 2 := by decide +kernel
theorem rr_211 : rM 211 = some .int := by decide +kernel
theorem oo_212 : oM 212 = 9 := by decide +kernel
theorem xx_212 : xM 212 = 4 := by decide +kernel
theorem rr_212 : rM 212 = some .boolean := by decide +kernel
theorem oo_213 : oM 213 = 9 := by decide +kernel
theorem xx_213 : xM 213 = 4 := by decide +kernel
theorem rr_213 : rM 213 = none := by decide +kernel
theorem oo_214 : oM 214 = 9 := by decide +kernel
theorem xx_214 : xM 214 = 3 := by decide +kernel
theorem rr_214 : rM 214 = none := by decide +kernel
theorem oo_215 : oM 215 = 9 := by decide +kernel
theorem xx_215 : xM 215 = 2 := by decide +kernel
theorem rr_215 : rM 215 = some .int := by decide +kernel
theorem oo_216 : oM 216 = 9 := by decide +kernel
theorem xx_216 : xM 216 = 3 := by decide +kernel
theorem rr_216 : rM 216 = some .int := by decide +kernel
theorem oo_217 : oM 217 = 9 := by decide +kernel
theorem xx_217 : xM 217 = 3 := by decide +kernel
theorem rr_217 : rM 217 = some .int := by decide +kernel
theorem oo_218 : oM 218 = 9 := by decide +kernel
theorem xx_218 : xM 218 = 2 := by decide +kernel
theorem rr_218 : rM 218 = some .int := by decide +kernel
theorem oo_219 : oM 219 = 9 := by decide +kernel
theorem xx_219 : xM 219 = 5 := by decide +kernel
theorem rr_219 : rM 219 = some .long := by decide +kernel
theorem oo_220 : oM 220 = 9 := by decide +kernel
theorem xx_220 : xM 220 = 2 := by decide +kernel
theorem rr_220 : rM 220 = some .int := by decide +kernel
theorem oo_221 : oM 221 = 9 := by decide +kernel
theorem xx_221 : xM 221 = 3 := by decide +kernel
theorem rr_221 : rM 221 = some .int := by decide +kernel
theorem oo_222 : oM 222 = 9 := by decide +kernel
theorem xx_222 : xM 222 = 1 := by decide +kernel
theorem rr_222 : rM 222 = some .boolean := by decide +kernel
theorem oo_223 : oM 223 = 9 := by decide +kernel
theorem xx_223 : xM 223 = 3 := by decide +kernel
theorem rr_223 : rM 223 = some .int := by decide +kernel
theorem oo_224 : oM 224 = 9 := by decide +kernel
theorem xx_224 : xM 224 = 3 := by decide +kernel
theorem rr_224 : rM 224 = some .int := by decide +kernel
theorem oo_225 : oM 225 = 9 := by decide +kernel
theorem xx_225 : xM 225 = 3 := by decide +kernel
theorem rr_225 : rM 225 = some .int := by decide +kernel
theorem oo_226 : oM 226 = 9 := by decide +kernel
theorem xx_226 : xM 226 = 3 := by decide +kernel
theorem rr_226 : rM 226 = none := by decide +kernel
theorem oo_227 : oM 227 = 9 := by decide +kernel
theorem xx_227 : xM 227 = 3 := by decide +kernel
theorem rr_227 : rM 227 = some .boolean := by decide +kernel
theorem oo_228 : oM 228 = 9 := by decide +kernel
theorem xx_228 : xM 228 = 4 := by decide +kernel
theorem rr_228 : rM 228 = some .int := by decide +kernel
theorem oo_229 : oM 229 = 9 := by decide +kernel
theorem xx_229 : xM 229 = 4 := by decide +kernel
theorem rr_229 : rM 229 = some .int := by decide +kernel
theorem oo_230 : oM 230 = 9 := by decide +kernel
theorem xx_230 : xM 230 = 4 := by decide +kernel
theorem rr_230 : rM 230 = some .int := by decide +kernel
theorem oo_231 : oM 231 = 9 := by decide +kernel
theorem xx_231 : xM 231 = 2 := by decide +kernel
theorem rr_231 : rM 231 = some .int := by decide +kernel
theorem oo_232 : oM 232 = 9 := by decide +kernel
theorem xx_232 : xM 232 = 5 := by decide +kernel
theorem rr_232 : rM 232 = some .int := by decide +kernel
theorem oo_233 : oM 233 = 9 := by decide +kernel
theorem xx_233 : xM 233 = 7 := by decide +kernel
theorem rr_233 : rM 233 = some .int := by decide +kernel
theorem oo_234 : oM 234 = 9 := by decide +kernel
theorem xx_234 : xM 234 = 3 := by decide +kernel
theorem rr_234 : rM 234 = some .int := by decide +kernel
theorem oo_235 : oM 235 = 9 := by decide +kernel
theorem xx_235 : xM 235 = 3 := by decide +kernel
theorem rr_235 : rM 235 = some .int := by decide +kernel
theorem oo_236 : oM 236 = 9 := by decide +kernel
theorem xx_236 : xM 236 = 1 := by decide +kernel
theorem rr_236 : rM 236 = some .int := by decide +kernel
theorem oo_237 : oM 237 = 9 := by decide +kernel
theorem xx_237 : xM 237 = 4 := by decide +kernel
theorem rr_237 : rM 237 = some .boolean := by decide +kernel
theorem oo_238 : oM 238 = 9 := by decide +kernel
theorem xx_238 : xM 238 = 3 := by decide +kernel
theorem rr_238 : rM 238 = some .int := by decide +kernel
theorem oo_239 : oM 239 = 9 := by decide +kernel
theorem xx_239 : xM 239 = 1 := by decide +kernel
theorem rr_239 : rM 239 = some .int := by decide +kernel
theorem oo_240 : oM 240 = 9 := by decide +kernel
theorem xx_240 : xM 240 = 4 := by decide +kernel
theorem rr_240 : rM 240 = some .int := by decide +kernel
theorem oo_241 : oM 241 = 9 := by decide +kernel
theorem xx_241 : xM 241 = 4 := by decide +kernel
theorem rr_241 : rM 241 = some .int := by decide +kernel
theorem oo_242 : oM 242 = 9 := by decide +kernel
theorem xx_242 : xM 242 = 5 := by decide +kernel
theorem rr_242 : rM 242 = some .int := by decide +kernel
theorem oo_243 : oM 243 = 9 := by decide +kernel
theorem xx_243 : xM 243 = 4 := by decide +kernel
theorem rr_243 : rM 243 = some .int := by decide +kernel
theorem oo_244 : oM 244 = 9 := by decide +kernel
theorem xx_244 : xM 244 = 3 := by decide +kernel
theorem rr_244 : rM 244 = some .int := by decide +kernel
theorem oo_245 : oM 245 = 9 := by decide +kernel
theorem xx_245 : xM 245 = 5 := by decide +kernel
theorem rr_245 : rM 245 = some .int := by decide +kernel
theorem oo_246 : oM 246 = 9 := by decide +kernel
theorem xx_246 : xM 246 = 6 := by decide +kernel
theorem rr_246 : rM 246 = some .int := by decide +kernel
theorem oo_247 : oM 247 = 9 := by decide +kernel
theorem xx_247 : xM 247 = 4 := by decide +kernel
theorem rr_247 : rM 247 = some .int := by decide +kernel
theorem oo_248 : oM 248 = 9 := by decide +kernel
theorem xx_248 : xM 248 = 4 := by decide +kernel
theorem rr_248 : rM 248 = some .int := by decide +kernel
theorem oo_249 : oM 249 = 9 := by decide +kernel
theorem xx_249 : xM 249 = 3 := by decide +kernel
theorem rr_249 : rM 249 = some .int := by decide +kernel
theorem oo_250 : oM 250 = 9 := by decide +kernel
theorem xx_250 : xM 250 = 5 := by decide +kernel
theorem rr_250 : rM 250 = none := by decide +kernel
theorem oo_251 : oM 251 = 9 := by decide +kernel
theorem xx_251 : xM 251 = 3 := by decide +kernel
theorem rr_251 : rM 251 = some .int := by decide +kernel
theorem oo_252 : oM 252 = 9 := by decide +kernel
theorem xx_252 : xM 252 = 13 := by decide +kernel
theorem rr_252 : rM 252 = some .long := by decide +kernel
theorem oo_253 : oM 253 = 9 := by decide +kernel
theorem xx_253 : xM 253 = 5 := by decide +kernel
theorem rr_253 : rM 253 = some .int := by decide +kernel
theorem oo_254 : oM 254 = 9 := by decide +kernel
theorem xx_254 : xM 254 = 4 := by decide +kernel
theorem rr_254 : rM 254 = some .int := by decide +kernel
theorem oo_255 : oM 255 = 9 := by decide +kernel
theorem xx_255 : xM 255 = 2 := by decide +kernel
theorem rr_255 : rM 255 = some .int := by decide +kernel
theorem oo_256 : oM 256 = 9 := by decide +kernel
theorem xx_256 : xM 256 = 2 := by decide +kernel
theorem rr_256 : rM 256 = some .boolean := by decide +kernel
theorem oo_257 : oM 257 = 9 := by decide +kernel
theorem xx_257 : xM 257 = 1 := by decide +kernel
theorem rr_257 : rM 257 = some .int := by decide +kernel
theorem oo_258 : oM 258 = 9 := by decide +kernel
theorem xx_258 : xM 258 = 2 := by decide +kernel
theorem rr_258 : rM 258 = none := by decide +kernel
theorem oo_259 : oM 259 = 9 := by decide +kernel
theorem xx_259 : xM 259 = 4 := by decide +kernel
theorem rr_259 : rM 259 = some .int := by decide +kernel
theorem oo_260 : oM 260 = 9 := by decide +kernel
theorem xx_260 : xM 260 = 5 := by decide +kernel
theorem rr_260 : rM 260 = some .boolean := by decide +kernel
theorem oo_261 : oM 261 = 9 := by decide +kernel
theorem xx_261 : xM 261 = 3 := by decide +kernel
theorem rr_261 : rM 261 = some .int := by decide +kernel
theorem oo_262 : oM 262 = 9 := by decide +kernel
theorem xx_262 : xM 262 = 5 := by decide +kernel
theorem rr_262 : rM 262 = some .int := by decide +kernel
theorem oo_263 : oM 263 = 9 := by decide +kernel
theorem xx_263 : xM 263 = 4 := by decide +kernel
theorem rr_263 : rM 263 = some .int := by decide +kernel
theorem oo_264 : oM 264 = 9 := by decide +kernel
theorem xx_264 : xM 264 = 8 := by decide +kernel
theorem rr_264 : rM 264 = some .int := by decide +kernel
theorem oo_265 : oM 265 = 9 := by decide +kernel
theorem xx_265 : xM 265 = 4 := by decide +kernel
theorem rr_265 : rM 265 = some .int := by decide +kernel
theorem oo_266 : oM 266 = 9 := by decide +kernel
theorem xx_266 : xM 266 = 4 := by decide +kernel
theorem rr_266 : rM 266 = none := by decide +kernel
theorem oo_267 : oM 267 = 9 := by decide +kernel
theorem xx_267 : xM 267 = 4 := by decide +kernel
theorem rr_267 : rM 267 = none := by decide +kernel
theorem oo_268 : oM 268 = 9 := by decide +kernel
theorem xx_268 : xM 268 = 2 := by decide +kernel
theorem rr_268 : rM 268 = none := by decide +kernel
theorem oo_269 : oM 269 = 9 := by decide +kernel
theorem xx_269 : xM 269 = 1 := by decide +kernel
theorem rr_269 : rM 269 = some .int := by decide +kernel
theorem oo_270 : oM 270 = 9 := by decide +kernel
theorem xx_270 : xM 270 = 2 := by decide +kernel
theorem rr_270 : rM 270 = some .int := by decide +kernel
theorem oo_271 : oM 271 = 9 := by decide +kernel
theorem xx_271 : xM 271 = 2 := by decide +kernel
theorem rr_271 : rM 271 = some .int := by decide +kernel
theorem oo_272 : oM 272 = 9 := by decide +kernel
theorem xx_272 : xM 272 = 4 := by decide +kernel
theorem rr_272 : rM 272 = some .int := by decide +kernel
theorem oo_273 : oM 273 = 10 := by decide +kernel
theorem xx_273 : xM 273 = 7 := by decide +kernel
theorem rr_273 : rM 273 = some .boolean := by decide +kernel
theorem oo_274 : oM 274 = 11 := by decide +kernel
theorem xx_274 : xM 274 = 2 := by decide +kernel
theorem rr_274 : rM 274 = some .int := by decide +kernel
theorem oo_275 : oM 275 = 11 := by decide +kernel
theorem xx_275 : xM 275 = 2 := by decide +kernel
theorem rr_275 : rM 275 = some .int := by decide +kernel
theorem oo_276 : oM 276 = 11 := by decide +kernel
theorem xx_276 : xM 276 = 1 := by decide +kernel
theorem rr_276 : rM 276 = some .int := by decide +kernel
theorem oo_277 : oM 277 = 12 := by decide +kernel
theorem xx_277 : xM 277 = 2 := by decide +kernel
theorem rr_277 : rM 277 = some .long := by decide +kernel
theorem oo_278 : oM 278 = 12 := by decide +kernel
theorem xx_278 : xM 278 = 2 := by decide +kernel
theorem rr_278 : rM 278 = some .int := by decide +kernel
theorem oo_279 : oM 279 = 12 := by decide +kernel
theorem xx_279 : xM 279 = 4 := by decide +kernel
theorem rr_279 : rM 279 = some .long := by decide +kernel
theorem oo_280 : oM 280 = 12 := by decide +kernel
theorem xx_280 : xM 280 = 2 := by decide +kernel
theorem rr_280 : rM 280 = some .int := by decide +kernel
theorem oo_281 : oM 281 = 12 := by decide +kernel
theorem xx_281 : xM 281 = 4 := by decide +kernel
theorem rr_281 : rM 281 = some .long := by decide +kernel
theorem oo_282 : oM 282 = 13 := by decide +kernel
theorem xx_282 : xM 282 = 1 := by decide +kernel
theorem rr_282 : rM 282 = some .int := by decide +kernel
theorem oo_283 : oM 283 = 13 := by decide +kernel
theorem xx_283 : xM 283 = 2 := by decide +kernel
theorem rr_283 : rM 283 = some .char := by decide +kernel
theorem oo_284 : oM 284 = 13 := by decide +kernel
theorem xx_284 : xM 284 = 2 := by decide +kernel
theorem rr_284 : rM 284 = some .int := by decide +kernel
theorem oo_285 : oM 285 = 13 := by decide +kernel
theorem xx_285 : xM 285 = 3 := by decide +kernel
theorem rr_285 : rM 285 = some .int := by decide +kernel
theorem oo_286 : oM 286 = 13 := by decide +kernel
theorem xx_286 : xM 286 = 1 := by decide +kernel
theorem rr_286 : rM 286 = some .byte := by decide +kernel
theorem oo_287 : oM 287 = 13 := by decide +kernel
theorem xx_287 : xM 287 = 1 := by decide +kernel
theorem rr_287 : rM 287 = some .boolean := by decide +kernel
theorem oo_288 : oM 288 = 13 := by decide +kernel
theorem xx_288 : xM 288 = 2 := by decide +kernel
theorem rr_288 : rM 288 = none := by decide +kernel
theorem oo_289 : oM 289 = 13 := by decide +kernel
theorem xx_289 : xM 289 = 3 := by decide +kernel
theorem rr_289 : rM 289 = none := by decide +kernel
theorem oo_290 : oM 290 = 14 := by decide +kernel
theorem xx_290 : xM 290 = 2 := by decide +kernel
theorem rr_290 : rM 290 = some .char := by decide +kernel
theorem oo_291 : oM 291 = 14 := by decide +kernel
theorem xx_291 : xM 291 = 1 := by decide +kernel
theorem rr_291 : rM 291 = some .boolean := by decide +kernel
theorem oo_292 : oM 292 = 14 := by decide +kernel
theorem xx_292 : xM 292 = 4 := by decide +kernel
theorem rr_292 : rM 292 = some .int := by decide +kernel
theorem oo_293 : oM 293 = 14 := by decide +kernel
theorem xx_293 : xM 293 = 6 := by decide +kernel
theorem rr_293 : rM 293 = some .int := by decide +kernel
