/-! ===== a call out of its body ===== -/
theorem ck_1 {t : Nat} {σ : Mm} {w : Option Value × Mm} {a1 n1 : Nat} {x2 : Int32} {x3 : Int32} (hS : Sg t σ) (h1 : KS[a1]? = some (11, n1)) (h : Ev 1 0 [.ref 56, .ref a1, .int x2, .int x3, .retAddr 0, .retAddr 0, .retAddr 0] [] σ w) : Cl 1 [.ref 56, .ref a1, .int x2, .int x3] σ w :=
  ⟨okr_v (by decide +kernel) oo_1 (by decide) (by rw [xx_1]; exact Nat.le_of_ble_eq_true rfl) rfl (hS.k rfl), by rw [xx_1]; exact h⟩
theorem ck_2 {t : Nat} {σ : Mm} {w : Option Value × Mm} {x1 : Int32} (hS : Sg t σ)  (h : Ev 2 0 [.ref 56, .int x1] [] σ w) : Cl 2 [.ref 56, .int x1] σ w :=
  ⟨okr_v (by decide +kernel) oo_2 (by decide) (by rw [xx_2]; exact Nat.le_of_ble_eq_true rfl) rfl (hS.k rfl), by rw [xx_2]; exact h⟩
theorem ck_3 {t : Nat} {σ : Mm} {w : Option Value × Mm} {x1 : Int32} (hS : Sg t σ)  (h : Ev 3 0 [.ref 56, .int x1, .retAddr 0] [] σ w) : Cl 3 [.ref 56, .int x1] σ w :=
  ⟨okr_v (by decide +kernel) oo_3 (by decide) (by rw [xx_3]; exact Nat.le_of_ble_eq_true rfl) rfl (hS.k rfl), by rw [xx_3]; exact h⟩
theorem ck_5 {t : Nat} {σ : Mm} {w : Option Value × Mm}  (hS : Sg t σ)  (h : Ev 5 0 [.ref 38] [] σ w) : Cl 5 [.ref 38] σ w :=
  ⟨okr_v (by decide +kernel) oo_5 (by decide) (by rw [xx_5]; exact Nat.le_of_ble_eq_true rfl) rfl (hS.k rfl), by rw [xx_5]; exact h⟩
theorem ck_6 {t : Nat} {σ : Mm} {w : Option Value × Mm}  (hS : Sg t σ)  (h : Ev 6 0 [.ref 38] [] σ w) : Cl 6 [.ref 38] σ w :=
  ⟨okr_v (by decide +kernel) oo_6 (by decide) (by rw [xx_6]; exact Nat.le_of_ble_eq_true rfl) rfl (hS.k rfl), by rw [xx_6]; exact h⟩
theorem ck_7 {t : Nat} {σ : Mm} {w : Option Value × Mm} {x1 : Int32} {x2 : Int32} (hS : Sg t σ)  (h : Ev 7 0 [.ref 38, .int x1, .int x2] [] σ w) : Cl 7 [.ref 38, .int x1, .int x2] σ w :=
  ⟨okr_v (by decide +kernel) oo_7 (by decide) (by rw [xx_7]; exact Nat.le_of_ble_eq_true rfl) rfl (hS.k rfl), by rw [xx_7]; exact h⟩
theorem ck_8 {t : Nat} {σ : Mm} {w : Option Value × Mm} {a1 : Nat} {a2 : Nat} {x3 : Int32} (hS : Sg t σ) (h1 : a1 = 3 ∨ a1 = 15) (h2 : a2 = 26 ∨ a2 = 30 ∨ a2 = 34) (h : Ev 8 0 [.ref 38, .ref a1, .ref a2, .int x3, .retAddr 0, .retAddr 0] [] σ w) : Cl 8 [.ref 38, .ref a1, .ref a2, .int x3] σ w :=
  ⟨okr_v (by decide +kernel) oo_8 (by decide) (by rw [xx_8]; exact Nat.le_of_ble_eq_true rfl) rfl (hS.k rfl), by rw [xx_8]; exact h⟩
theorem ck_9 {t : Nat} {σ : Mm} {w : Option Value × Mm} {a1 : Nat} {a2 : Nat} {x3 : Int32} (hS : Sg t σ) (h1 : a1 = 3 ∨ a1 = 15) (h2 : a2 = 26 ∨ a2 = 30 ∨ a2 = 34) (h : Ev 9 0 [.ref 38, .ref a1, .ref a2, .int x3, .retAddr 0, .retAddr 0, .retAddr 0, .retAddr 0] [] σ w) : Cl 9 [.ref 38, .ref a1, .ref a2, .int x3] σ w :=
  ⟨okr_v (by decide +kernel) oo_9 (by decide) (by rw [xx_9]; exact Nat.le_of_ble_eq_true rfl) rfl (hS.k rfl), by rw [xx_9]; exact h⟩
theorem ck_10 {t : Nat} {σ : Mm} {w : Option Value × Mm} {a1 : Nat} {a2 : Nat} {x3 : Int32} (hS : Sg t σ) (h1 : a1 = 3 ∨ a1 = 15) (h2 : a2 = 26 ∨ a2 = 30 ∨ a2 = 34) (h : Ev 10 0 [.ref 38, .ref a1, .ref a2, .int x3, .retAddr 0, .retAddr 0, .retAddr 0, .retAddr 0] [] σ w) : Cl 10 [.ref 38, .ref a1, .ref a2, .int x3] σ w :=
  ⟨okr_v (by decide +kernel) oo_10 (by decide) (by rw [xx_10]; exact Nat.le_of_ble_eq_true rfl) rfl (hS.k rfl), by rw [xx_10]; exact h⟩
theorem ck_11 {t : Nat} {σ : Mm} {w : Option Value × Mm} {a1 : Nat} {a2 : Nat} {x3 : Int32} {x4 : Int32} (hS : Sg t σ) (h1 : a1 = 3 ∨ a1 = 15) (h2 : a2 = 26 ∨ a2 = 30 ∨ a2 = 34) (h : Ev 11 0 [.ref 38, .ref a1, .ref a2, .int x3, .int x4, .retAddr 0] [] σ w) : Cl 11 [.ref 38, .ref a1, .ref a2, .int x3, .int x4] σ w :=
  ⟨okr_v (by decide +kernel) oo_11 (by decide) (by rw [xx_11]; exact Nat.le_of_ble_eq_true rfl) rfl (hS.k rfl), by rw [xx_11]; exact h⟩
theorem ck_12 {t : Nat} {σ : Mm} {w : Option Value × Mm} {a1 : Nat} {x2 : Int32} (hS : Sg t σ) (h1 : a1 = 3 ∨ a1 = 15) (h : Ev 12 0 [.ref 38, .ref a1, .int x2, .retAddr 0, .retAddr 0, .retAddr 0, .retAddr 0] [] σ w) : Cl 12 [.ref 38, .ref a1, .int x2] σ w :=
  ⟨okr_v (by decide +kernel) oo_12 (by decide) (by rw [xx_12]; exact Nat.le_of_ble_eq_true rfl) rfl (hS.k rfl), by rw [xx_12]; exact h⟩
theorem ck_13 {t : Nat} {σ : Mm} {w : Option Value × Mm} {x0 : Int32} {y1 : Int64} {y3 : Int64} (hS : Sg t σ)  (h : Ev 13 0 [.int x0, .long y1, .float 0, .long y3, .float 0] [] σ w) : Cl 13 [.int x0, .long y1, .long y3] σ w :=
  ⟨okr_s (by decide +kernel) (by rw [xx_13]; exact Nat.le_of_ble_eq_true rfl) rfl, by rw [xx_13]; exact h⟩
theorem ck_14 {t : Nat} {σ : Mm} {w : Option Value × Mm} {x0 : Int32} (hS : Sg t σ)  (h : Ev 14 0 [.int x0] [] σ w) : Cl 14 [.int x0] σ w :=
  ⟨okr_s (by decide +kernel) (by rw [xx_14]; exact Nat.le_of_ble_eq_true rfl) rfl, by rw [xx_14]; exact h⟩
theorem ck_15 {t : Nat} {σ : Mm} {w : Option Value × Mm} {y0 : Int64} (hS : Sg t σ)  (h : Ev 15 0 [.long y0, .float 0] [] σ w) : Cl 15 [.long y0] σ w :=
  ⟨okr_s (by decide +kernel) (by rw [xx_15]; exact Nat.le_of_ble_eq_true rfl) rfl, by rw [xx_15]; exact h⟩
theorem ck_16 {t : Nat} {σ : Mm} {w : Option Value × Mm} {y0 : Int64} {y2 : Int64} (hS : Sg t σ)  (h : Ev 16 0 [.long y0, .float 0, .long y2, .float 0] [] σ w) : Cl 16 [.long y0, .long y2] σ w :=
  ⟨okr_s (by decide +kernel) (by rw [xx_16]; exact Nat.le_of_ble_eq_true rfl) rfl, by rw [xx_16]; exact h⟩
theorem ck_18 {t : Nat} {σ : Mm} {w : Option Value × Mm} {a : Nat} {a1 : Nat} (hS : Sg t σ) (ha : a = 26 ∨ a = 30 ∨ a = 34) (h1 : a1 = 3 ∨ a1 = 15) (h : Ev 18 0 [.ref a, .ref a1, .retAddr 0] [] σ w) : Cl 18 [.ref a, .ref a1] σ w :=
  ⟨okr_v (by decide +kernel) oo_18 (by decide) (by rw [xx_18]; exact Nat.le_of_ble_eq_true rfl) rfl (hS.k (kH ha)), by rw [xx_18]; exact h⟩
theorem ck_19 {t : Nat} {σ : Mm} {w : Option Value × Mm} {a : Nat} {a1 : Nat} (hS : Sg t σ) (ha : a = 26 ∨ a = 30 ∨ a = 34) (h1 : a1 = 26 ∨ a1 = 30 ∨ a1 = 34) (h : Ev 19 0 [.ref a, .ref a1] [] σ w) : Cl 19 [.ref a, .ref a1] σ w :=
  ⟨okr_v (by decide +kernel) oo_19 (by decide) (by rw [xx_19]; exact Nat.le_of_ble_eq_true rfl) rfl (hS.k (kH ha)), by rw [xx_19]; exact h⟩
theorem ck_20 {t : Nat} {σ : Mm} {w : Option Value × Mm} {a : Nat} (hS : Sg t σ) (ha : a = 26 ∨ a = 30 ∨ a = 34) (h : Ev 20 0 [.ref a] [] σ w) : Cl 20 [.ref a] σ w :=
  ⟨okr_v (by decide +kernel) oo_20 (by decide) (by rw [xx_20]; exact Nat.le_of_ble_eq_true rfl) rfl (hS.k (kH ha)), by rw [xx_20]; exact h⟩
theorem ck_21 {t : Nat} {σ : Mm} {w : Option Value × Mm} {a : Nat} {a1 : Nat} (hS : Sg t σ) (ha : a = 26 ∨ a = 30 ∨ a = 34) (h1 : a1 = 3 ∨ a1 = 15) (h : Ev 21 0 [.ref a, .ref a1] [] σ w) : Cl 21 [.ref a, .ref a1] σ w :=
  ⟨okr_v (by decide +kernel) oo_21 (by decide) (by rw [xx_21]; exact Nat.le_of_ble_eq_true rfl) rfl (hS.k (kH ha)), by rw [xx_21]; exact h⟩
theorem ck_22 {t : Nat} {σ : Mm} {w : Option Value × Mm} {a : Nat} {x1 : Int32} (hS : Sg t σ) (ha : a = 26 ∨ a = 30 ∨ a = 34) (h : Ev 22 0 [.ref a, .int x1, .retAddr 0, .retAddr 0] [] σ w) : Cl 22 [.ref a, .int x1] σ w :=
  ⟨okr_v (by decide +kernel) oo_22 (by decide) (by rw [xx_22]; exact Nat.le_of_ble_eq_true rfl) rfl (hS.k (kH ha)), by rw [xx_22]; exact h⟩
theorem ck_23 {t : Nat} {σ : Mm} {w : Option Value × Mm} {a : Nat} (hS : Sg t σ) (ha : a = 26 ∨ a = 30 ∨ a = 34) (h : Ev 23 0 [.ref a, .retAddr 0, .retAddr 0] [] σ w) : Cl 23 [.ref a] σ w :=
  ⟨okr_v (by decide +kernel) oo_23 (by decide) (by rw [xx_23]; exact Nat.le_of_ble_eq_true rfl) rfl (hS.k (kH ha)), by rw [xx_23]; exact h⟩
theorem ck_24 {t : Nat} {σ : Mm} {w : Option Value × Mm} {a : Nat} (hS : Sg t σ) (ha : a = 26 ∨ a = 30 ∨ a = 34) (h : Ev 24 0 [.ref a] [] σ w) : Cl 24 [.ref a] σ w :=
  ⟨okr_v (by decide +kernel) oo_24 (by decide) (by rw [xx_24]; exact Nat.le_of_ble_eq_true rfl) rfl (hS.k (kH ha)), by rw [xx_24]; exact h⟩
theorem ck_25 {t : Nat} {σ : Mm} {w : Option Value × Mm} {a : Nat} (hS : Sg t σ) (ha : a = 26 ∨ a = 30 ∨ a = 34) (h : Ev 25 0 [.ref a] [] σ w) : Cl 25 [.ref a] σ w :=
  ⟨okr_v (by decide +kernel) oo_25 (by decide) (by rw [xx_25]; exact Nat.le_of_ble_eq_true rfl) rfl (hS.k (kH ha)), by rw [xx_25]; exact h⟩
theorem ck_27 {t : Nat} {σ : Mm} {w : Option Value × Mm}  (hS : Sg t σ)  (h : Ev 27 0 [.ref 49] [] σ w) : Cl 27 [.ref 49] σ w :=
  ⟨okr_v (by decide +kernel) oo_27 (by decide) (by rw [xx_27]; exact Nat.le_of_ble_eq_true rfl) rfl (hS.k rfl), by rw [xx_27]; exact h⟩
theorem ck_28 {t : Nat} {σ : Mm} {w : Option Value × Mm} {x1 : Int32} {x2 : Int32} {x3 : Int32} (hS : Sg t σ)  (h : Ev 28 0 [.ref 49, .int x1, .int x2, .int x3] [] σ w) : Cl 28 [.ref 49, .int x1, .int x2, .int x3] σ w :=
  ⟨okr_v (by decide +kernel) oo_28 (by decide) (by rw [xx_28]; exact Nat.le_of_ble_eq_true rfl) rfl (hS.k rfl), by rw [xx_28]; exact h⟩
theorem ck_29 {t : Nat} {σ : Mm} {w : Option Value × Mm} {x1 : Int32} (hS : Sg t σ)  (h : Ev 29 0 [.ref 49, .int x1] [] σ w) : Cl 29 [.ref 49, .int x1] σ w :=
  ⟨okr_v (by decide +kernel) oo_29 (by decide) (by rw [xx_29]; exact Nat.le_of_ble_eq_true rfl) rfl (hS.k rfl), by rw [xx_29]; exact h⟩
theorem ck_30 {t : Nat} {σ : Mm} {w : Option Value × Mm}  (hS : Sg t σ)  (h : Ev 30 0 [.ref 49] [] σ w) : Cl 30 [.ref 49] σ w :=
  ⟨okr_v (by decide +kernel) oo_30 (by decide) (by rw [xx_30]; exact Nat.le_of_ble_eq_true rfl) rfl (hS.k rfl), by rw [xx_30]; exact h⟩
theorem ck_31 {t : Nat} {σ : Mm} {w : Option Value × Mm} {x2 : Int32} (hS : Sg t σ)  (h : Ev 31 0 [.ref 49, .ref 53, .int x2, .retAddr 0, .retAddr 0, .retAddr 0] [] σ w) : Cl 31 [.ref 49, .ref 53, .int x2] σ w :=
  ⟨okr_v (by decide +kernel) oo_31 (by decide) (by rw [xx_31]; exact Nat.le_of_ble_eq_true rfl) rfl (hS.k rfl), by rw [xx_31]; exact h⟩
theorem ck_32 {t : Nat} {σ : Mm} {w : Option Value × Mm} {x1 : Int32} {x2 : Int32} (hS : Sg t σ)  (h : Ev 32 0 [.ref 49, .int x1, .int x2] [] σ w) : Cl 32 [.ref 49, .int x1, .int x2] σ w :=
  ⟨okr_v (by decide +kernel) oo_32 (by decide) (by rw [xx_32]; exact Nat.le_of_ble_eq_true rfl) rfl (hS.k rfl), by rw [xx_32]; exact h⟩
theorem ck_33 {t : Nat} {σ : Mm} {w : Option Value × Mm}  (hS : Sg t σ)  (h : Ev 33 0 [.ref 49, .retAddr 0, .retAddr 0] [] σ w) : Cl 33 [.ref 49] σ w :=
  ⟨okr_v (by decide +kernel) oo_33 (by decide) (by rw [xx_33]; exact Nat.le_of_ble_eq_true rfl) rfl (hS.k rfl), by rw [xx_33]; exact h⟩
theorem ck_34 {t : Nat} {σ : Mm} {w : Option Value × Mm} {x1 : Int32} {x2 : Int32} {x3 : Int32} (hS : Sg t σ)  (h : Ev 34 0 [.ref 49, .int x1, .int x2, .int x3] [] σ w) : Cl 34 [.ref 49, .int x1, .int x2, .int x3] σ w :=
  ⟨okr_v (by decide +kernel) oo_34 (by decide) (by rw [xx_34]; exact Nat.le_of_ble_eq_true rfl) rfl (hS.k rfl), by rw [xx_34]; exact h⟩
theorem ck_36 {t : Nat} {σ : Mm} {w : Option Value × Mm} {x1 : Int32} (hS : Sg t σ)  (h : Ev 36 0 [.ref 1, .int x1, .retAddr 0] [] σ w) : Cl 36 [.ref 1, .int x1] σ w :=
  ⟨okr_v (by decide +kernel) oo_36 (by decide) (by rw [xx_36]; exact Nat.le_of_ble_eq_true rfl) rfl (hS.k rfl), by rw [xx_36]; exact h⟩
theorem ck_38 {t : Nat} {σ : Mm} {w : Option Value × Mm} {x1 : Int32} (hS : Sg t σ)  (h : Ev 38 0 [.ref 1, .int x1] [] σ w) : Cl 38 [.ref 1, .int x1] σ w :=
  ⟨okr_v (by decide +kernel) oo_38 (by decide) (by rw [xx_38]; exact Nat.le_of_ble_eq_true rfl) rfl (hS.k rfl), by rw [xx_38]; exact h⟩
theorem ck_39 {t : Nat} {σ : Mm} {w : Option Value × Mm}  (hS : Sg t σ)  (h : Ev 39 0 [.ref 1] [] σ w) : Cl 39 [.ref 1] σ w :=
  ⟨okr_v (by decide +kernel) oo_39 (by decide) (by rw [xx_39]; exact Nat.le_of_ble_eq_true rfl) rfl (hS.k rfl), by rw [xx_39]; exact h⟩
theorem ck_40 {t : Nat} {σ : Mm} {w : Option Value × Mm} {x1 : Int32} (hS : Sg t σ)  (h : Ev 40 0 [.ref 1, .int x1] [] σ w) : Cl 40 [.ref 1, .int x1] σ w :=
  ⟨okr_v (by decide +kernel) oo_40 (by decide) (by rw [xx_40]; exact Nat.le_of_ble_eq_true rfl) rfl (hS.k rfl), by rw [xx_40]; exact h⟩
theorem ck_41 {t : Nat} {σ : Mm} {w : Option Value × Mm} {x1 : Int32} (hS : Sg t σ)  (h : Ev 41 0 [.ref 1, .int x1] [] σ w) : Cl 41 [.ref 1, .int x1] σ w :=
  ⟨okr_v (by decide +kernel) oo_41 (by decide) (by rw [xx_41]; exact Nat.le_of_ble_eq_true rfl) rfl (hS.k rfl), by rw [xx_41]; exact h⟩
theorem ck_42 {t : Nat} {σ : Mm} {w : Option Value × Mm} {x0 : Int32} (hS : Sg t σ)  (h : Ev 42 0 [.int x0] [] σ w) : Cl 42 [.int x0] σ w :=
  ⟨okr_s (by decide +kernel) (by rw [xx_42]; exact Nat.le_of_ble_eq_true rfl) rfl, by rw [xx_42]; exact h⟩
theorem ck_43 {t : Nat} {σ : Mm} {w : Option Value × Mm} {x0 : Int32} (hS : Sg t σ)  (h : Ev 43 0 [.int x0] [] σ w) : Cl 43 [.int x0] σ w :=
  ⟨okr_s (by decide +kernel) (by rw [xx_43]; exact Nat.le_of_ble_eq_true rfl) rfl, by rw [xx_43]; exact h⟩
theorem ck_44 {t : Nat} {σ : Mm} {w : Option Value × Mm}  (hS : Sg t σ)  (h : Ev 44 0 [.ref 1] [] σ w) : Cl 44 [.ref 1] σ w :=
  ⟨okr_v (by decide +kernel) oo_44 (by decide) (by rw [xx_44]; exact Nat.le_of_ble_eq_true rfl) rfl (hS.k rfl), by rw [xx_44]; exact h⟩
theorem ck_45 {t : Nat} {σ : Mm} {w : Option Value × Mm}  (hS : Sg t σ)  (h : Ev 45 0 [.ref 1, .retAddr 0] [] σ w) : Cl 45 [.ref 1] σ w :=
  ⟨okr_v (by decide +kernel) oo_45 (by decide) (by rw [xx_45]; exact Nat.le_of_ble_eq_true rfl) rfl (hS.k rfl), by rw [xx_45]; exact h⟩
theorem ck_46 {t : Nat} {σ : Mm} {w : Option Value × Mm}  (hS : Sg t σ)  (h : Ev 46 0 [.ref 1, .retAddr 0, .retAddr 0, .retAddr 0, .retAddr 0] [] σ w) : Cl 46 [.ref 1] σ w :=
  ⟨okr_v (by decide +kernel) oo_46 (by decide) (by rw [xx_46]; exact Nat.le_of_ble_eq_true rfl) rfl (hS.k rfl), by rw [xx_46]; exact h⟩
theorem ck_47 {t : Nat} {σ : Mm} {w : Option Value × Mm}  (hS : Sg t σ)  (h : Ev 47 0 [.ref 1] [] σ w) : Cl 47 [.ref 1] σ w :=
  ⟨okr_v (by decide +kernel) oo_47 (by decide) (by rw [xx_47]; exact Nat.le_of_ble_eq_true rfl) rfl (hS.k rfl), by rw [xx_47]; exact h⟩
theorem ck_48 {t : Nat} {σ : Mm} {w : Option Value × Mm}  (hS : Sg t σ)  (h : Ev 48 0 [.ref 1, .retAddr 0, .retAddr 0, .retAddr 0] [] σ w) : Cl 48 [.ref 1] σ w :=
  ⟨okr_v (by decide +kernel) oo_48 (by decide) (by rw [xx_48]; exact Nat.le_of_ble_eq_true rfl) rfl (hS.k rfl), by rw [xx_48]; exact h⟩
theorem ck_49 {t : Nat} {σ : Mm} {w : Option Value × Mm} {x1 : Int32} (hS : Sg t σ)  (h : Ev 49 0 [.ref 1, .int x1] [] σ w) : Cl 49 [.ref 1, .int x1] σ w :=
  ⟨okr_v (by decide +kernel) oo_49 (by decide) (by rw [xx_49]; exact Nat.le_of_ble_eq_true rfl) rfl (hS.k rfl), by rw [xx_49]; exact h⟩
theorem ck_50 {t : Nat} {σ : Mm} {w : Option Value × Mm} {x1 : Int32} (hS : Sg t σ)  (h : Ev 50 0 [.ref 1, .int x1] [] σ w) : Cl 50 [.ref 1, .int x1] σ w :=
  ⟨okr_v (by decide +kernel) oo_50 (by decide) (by rw [xx_50]; exact Nat.le_of_ble_eq_true rfl) rfl (hS.k rfl), by rw [xx_50]; exact h⟩
theorem ck_51 {t : Nat} {σ : Mm} {w : Option Value × Mm}  (hS : Sg t σ)  (h : Ev 51 0 [.ref 1, .retAddr 0] [] σ w) : Cl 51 [.ref 1] σ w :=
  ⟨okr_v (by decide +kernel) oo_51 (by decide) (by rw [xx_51]; exact Nat.le_of_ble_eq_true rfl) rfl (hS.k rfl), by rw [xx_51]; exact h⟩
theorem ck_52 {t : Nat} {σ : Mm} {w : Option Value × Mm}  (hS : Sg t σ)  (h : Ev 52 0 [.ref 1, .retAddr 0] [] σ w) : Cl 52 [.ref 1] σ w :=
  ⟨okr_v (by decide +kernel) oo_52 (by decide) (by rw [xx_52]; exact Nat.le_of_ble_eq_true rfl) rfl (hS.k rfl), by rw [xx_52]; exact h⟩
theorem ck_53 {t : Nat} {σ : Mm} {w : Option Value × Mm}  (hS : Sg t σ)  (h : Ev 53 0 [.ref 1, .retAddr 0] [] σ w) : Cl 53 [.ref 1] σ w :=
  ⟨okr_v (by decide +kernel) oo_53 (by decide) (by rw [xx_53]; exact Nat.le_of_ble_eq_true rfl) rfl (hS.k rfl), by rw [xx_53]; exact h⟩
theorem ck_54 {t : Nat} {σ : Mm} {w : Option Value × Mm} {x1 : Int32} (hS : Sg t σ)  (h : Ev 54 0 [.ref 1, .int x1, .retAddr 0, .retAddr 0, .retAddr 0] [] σ w) : Cl 54 [.ref 1, .int x1] σ w :=
  ⟨okr_v (by decide +kernel) oo_54 (by decide) (by rw [xx_54]; exact Nat.le_of_ble_eq_true rfl) rfl (hS.k rfl), by rw [xx_54]; exact h⟩
theorem ck_55 {t : Nat} {σ : Mm} {w : Option Value × Mm}  (hS : Sg t σ)  (h : Ev 55 0 [.ref 1, .retAddr 0] [] σ w) : Cl 55 [.ref 1] σ w :=
  ⟨okr_v (by decide +kernel) oo_55 (by decide) (by rw [xx_55]; exact Nat.le_of_ble_eq_true rfl) rfl (hS.k rfl), by rw [xx_55]; exact h⟩
theorem ck_56 {t : Nat} {σ : Mm} {w : Option Value × Mm}  (hS : Sg t σ)  (h : Ev 56 0 [.ref 1, .retAddr 0, .retAddr 0] [] σ w) : Cl 56 [.ref 1] σ w :=
  ⟨okr_v (by decide +kernel) oo_56 (by decide) (by rw [xx_56]; exact Nat.le_of_ble_eq_true rfl) rfl (hS.k rfl), by rw [xx_56]; exact h⟩
theorem ck_57 {t : Nat} {σ : Mm} {w : Option Value × Mm}  (hS : Sg t σ)  (h : Ev 57 0 [.ref 1, .retAddr 0] [] σ w) : Cl 57 [.ref 1] σ w :=
  ⟨okr_v (by decide +kernel) oo_57 (by decide) (by rw [xx_57]; exact Nat.le_of_ble_eq_true rfl) rfl (hS.k rfl), by rw [xx_57]; exact h⟩
theorem ck_58 {t : Nat} {σ : Mm} {w : Option Value × Mm}  (hS : Sg t σ)  (h : Ev 58 0 [.ref 1] [] σ w) : Cl 58 [.ref 1] σ w :=
  ⟨okr_v (by decide +kernel) oo_58 (by decide) (by rw [xx_58]; exact Nat.le_of_ble_eq_true rfl) rfl (hS.k rfl), by rw [xx_58]; exact h⟩
theorem ck_59 {t : Nat} {σ : Mm} {w : Option Value × Mm}  (hS : Sg t σ)  (h : Ev 59 0 [.ref 1] [] σ w) : Cl 59 [.ref 1] σ w :=
  ⟨okr_v (by decide +kernel) oo_59 (by decide) (by rw [xx_59]; exact Nat.le_of_ble_eq_true rfl) rfl (hS.k rfl), by rw [xx_59]; exact h⟩
theorem ck_60 {t : Nat} {σ : Mm} {w : Option Value × Mm}  (hS : Sg t σ)  (h : Ev 60 0 [.ref 1, .retAddr 0] [] σ w) : Cl 60 [.ref 1] σ w :=
  ⟨okr_v (by decide +kernel) oo_60 (by decide) (by rw [xx_60]; exact Nat.le_of_ble_eq_true rfl) rfl (hS.k rfl), by rw [xx_60]; exact h⟩
theorem ck_61 {t : Nat} {σ : Mm} {w : Option Value × Mm}  (hS : Sg t σ)  (h : Ev 61 0 [.ref 1, .retAddr 0, .retAddr 0] [] σ w) : Cl 61 [.ref 1] σ w :=
  ⟨okr_v (by decide +kernel) oo_61 (by decide) (by rw [xx_61]; exact Nat.le_of_ble_eq_true rfl) rfl (hS.k rfl), by rw [xx_61]; exact h⟩
theorem ck_62 {t : Nat} {σ : Mm} {w : Option Value × Mm}  (hS : Sg t σ)  (h : Ev 62 0 [.ref 1] [] σ w) : Cl 62 [.ref 1] σ w :=
  ⟨okr_v (by decide +kernel) oo_62 (by decide) (by rw [xx_62]; exact Nat.le_of_ble_eq_true rfl) rfl (hS.k rfl), by rw [xx_62]; exact h⟩
theorem ck_63 {t : Nat} {σ : Mm} {w : Option Value × Mm}  (hS : Sg t σ)  (h : Ev 63 0 [.ref 1, .retAddr 0, .retAddr 0] [] σ w) : Cl 63 [.ref 1] σ w :=
  ⟨okr_v (by decide +kernel) oo_63 (by decide) (by rw [xx_63]; exact Nat.le_of_ble_eq_true rfl) rfl (hS.k rfl), by rw [xx_63]; exact h⟩
theorem ck_64 {t : Nat} {σ : Mm} {w : Option Value × Mm}  (hS : Sg t σ)  (h : Ev 64 0 [.ref 1] [] σ w) : Cl 64 [.ref 1] σ w :=
  ⟨okr_v (by decide +kernel) oo_64 (by decide) (by rw [xx_64]; exact Nat.le_of_ble_eq_true rfl) rfl (hS.k rfl), by rw [xx_64]; exact h⟩
theorem ck_65 {t : Nat} {σ : Mm} {w : Option Value × Mm}  (hS : Sg t σ)  (h : Ev 65 0 [.ref 1] [] σ w) : Cl 65 [.ref 1] σ w :=
  ⟨okr_v (by decide +kernel) oo_65 (by decide) (by rw [xx_65]; exact Nat.le_of_ble_eq_true rfl) rfl (hS.k rfl), by rw [xx_65]; exact h⟩
theorem ck_66 {t : Nat} {σ : Mm} {w : Option Value × Mm} {x1 : Int32} (hS : Sg t σ)  (h : Ev 66 0 [.ref 1, .int x1] [] σ w) : Cl 66 [.ref 1, .int x1] σ w :=
  ⟨okr_v (by decide +kernel) oo_66 (by decide) (by rw [xx_66]; exact Nat.le_of_ble_eq_true rfl) rfl (hS.k rfl), by rw [xx_66]; exact h⟩
theorem ck_67 {t : Nat} {σ : Mm} {w : Option Value × Mm} {x1 : Int32} (hS : Sg t σ)  (h : Ev 67 0 [.ref 1, .int x1] [] σ w) : Cl 67 [.ref 1, .int x1] σ w :=
  ⟨okr_v (by decide +kernel) oo_67 (by decide) (by rw [xx_67]; exact Nat.le_of_ble_eq_true rfl) rfl (hS.k rfl), by rw [xx_67]; exact h⟩
theorem ck_68 {t : Nat} {σ : Mm} {w : Option Value × Mm} {x1 : Int32} (hS : Sg t σ)  (h : Ev 68 0 [.ref 1, .int x1] [] σ w) : Cl 68 [.ref 1, .int x1] σ w :=
  ⟨okr_v (by decide +kernel) oo_68 (by decide) (by rw [xx_68]; exact Nat.le_of_ble_eq_true rfl) rfl (hS.k rfl), by rw [xx_68]; exact h⟩
theorem ck_69 {t : Nat} {σ : Mm} {w : Option Value × Mm} {x0 : Int32} (hS : Sg t σ)  (h : Ev 69 0 [.int x0] [] σ w) : Cl 69 [.int x0] σ w :=
  ⟨okr_s (by decide +kernel) (by rw [xx_69]; exact Nat.le_of_ble_eq_true rfl) rfl, by rw [xx_69]; exact h⟩
theorem ck_71 {t : Nat} {σ : Mm} {w : Option Value × Mm} {a1 n1 : Nat} {x2 : Int32} {x3 : Int32} (hS : Sg t σ) (h1 : KS[a1]? = some (11, n1)) (h : Ev 71 0 [.ref 53, .ref a1, .int x2, .int x3, .retAddr 0, .retAddr 0] [] σ w) : Cl 71 [.ref 53, .ref a1, .int x2, .int x3] σ w :=
  ⟨okr_v (by decide +kernel) oo_71 (by decide) (by rw [xx_71]; exact Nat.le_of_ble_eq_true rfl) rfl (hS.k rfl), by rw [xx_71]; exact h⟩
theorem ck_72 {t : Nat} {σ : Mm} {w : Option Value × Mm} {x1 : Int32} (hS : Sg t σ)  (h : Ev 72 0 [.ref 53, .int x1] [] σ w) : Cl 72 [.ref 53, .int x1] σ w :=
  ⟨okr_v (by decide +kernel) oo_72 (by decide) (by rw [xx_72]; exact Nat.le_of_ble_eq_true rfl) rfl (hS.k rfl), by rw [xx_72]; exact h⟩
theorem ck_73 {t : Nat} {σ : Mm} {w : Option Value × Mm} {x1 : Int32} {x2 : Int32} (hS : Sg t σ)  (h : Ev 73 0 [.ref 53, .int x1, .int x2] [] σ w) : Cl 73 [.ref 53, .int x1, .int x2] σ w :=
  ⟨okr_v (by decide +kernel) oo_73 (by decide) (by rw [xx_73]; exact Nat.le_of_ble_eq_true rfl) rfl (hS.k rfl), by rw [xx_73]; exact h⟩
theorem ck_74 {t : Nat} {σ : Mm} {w : Option Value × Mm} {x1 : Int32} (hS : Sg t σ)  (h : Ev 74 0 [.ref 53, .int x1, .retAddr 0, .retAddr 0] [] σ w) : Cl 74 [.ref 53, .int x1] σ w :=
  ⟨okr_v (by decide +kernel) oo_74 (by decide) (by rw [xx_74]; exact Nat.le_of_ble_eq_true rfl) rfl (hS.k rfl), by rw [xx_74]; exact h⟩
theorem ck_75 {t : Nat} {σ : Mm} {w : Option Value × Mm} {x1 : Int32} (hS : Sg t σ)  (h : Ev 75 0 [.ref 53, .int x1, .retAddr 0, .retAddr 0] [] σ w) : Cl 75 [.ref 53, .int x1] σ w :=
  ⟨okr_v (by decide +kernel) oo_75 (by decide) (by rw [xx_75]; exact Nat.le_of_ble_eq_true rfl) rfl (hS.k rfl), by rw [xx_75]; exact h⟩
theorem ck_76 {t : Nat} {σ : Mm} {w : Option Value × Mm}  (hS : Sg t σ)  (h : Ev 76 0 [.ref 53, .retAddr 0, .retAddr 0] [] σ w) : Cl 76 [.ref 53] σ w :=
  ⟨okr_v (by decide +kernel) oo_76 (by decide) (by rw [xx_76]; exact Nat.le_of_ble_eq_true rfl) rfl (hS.k rfl), by rw [xx_76]; exact h⟩
theorem ck_77 {t : Nat} {σ : Mm} {w : Option Value × Mm} {x1 : Int32} {a2 : Nat} (hS : Sg t σ) (h2 : a2 = 3 ∨ a2 = 15) (h : Ev 77 0 [.ref 53, .int x1, .ref a2, .retAddr 0, .retAddr 0, .retAddr 0, .retAddr 0] [] σ w) : Cl 77 [.ref 53, .int x1, .ref a2] σ w :=
  ⟨okr_v (by decide +kernel) oo_77 (by decide) (by rw [xx_77]; exact Nat.le_of_ble_eq_true rfl) rfl (hS.k rfl), by rw [xx_77]; exact h⟩
theorem ck_78 {t : Nat} {σ : Mm} {w : Option Value × Mm} {x1 : Int32} (hS : Sg t σ)  (h : Ev 78 0 [.ref 53, .int x1, .retAddr 0, .retAddr 0] [] σ w) : Cl 78 [.ref 53, .int x1] σ w :=
  ⟨okr_v (by decide +kernel) oo_78 (by decide) (by rw [xx_78]; exact Nat.le_of_ble_eq_true rfl) rfl (hS.k rfl), by rw [xx_78]; exact h⟩
theorem ck_79 {t : Nat} {σ : Mm} {w : Option Value × Mm} {x1 : Int32} (hS : Sg t σ)  (h : Ev 79 0 [.ref 53, .int x1, .retAddr 0, .retAddr 0] [] σ w) : Cl 79 [.ref 53, .int x1] σ w :=
  ⟨okr_v (by decide +kernel) oo_79 (by decide) (by rw [xx_79]; exact Nat.le_of_ble_eq_true rfl) rfl (hS.k rfl), by rw [xx_79]; exact h⟩
theorem ck_80 {t : Nat} {σ : Mm} {w : Option Value × Mm} {x1 : Int32} (hS : Sg t σ)  (h : Ev 80 0 [.ref 53, .int x1, .retAddr 0, .retAddr 0] [] σ w) : Cl 80 [.ref 53, .int x1] σ w :=
  ⟨okr_v (by decide +kernel) oo_80 (by decide) (by rw [xx_80]; exact Nat.le_of_ble_eq_true rfl) rfl (hS.k rfl), by rw [xx_80]; exact h⟩
theorem ck_81 {t : Nat} {σ : Mm} {w : Option Value × Mm} {x1 : Int32} {x2 : Int32} (hS : Sg t σ)  (h : Ev 81 0 [.ref 53, .int x1, .int x2] [] σ w) : Cl 81 [.ref 53, .int x1, .int x2] σ w :=
  ⟨okr_v (by decide +kernel) oo_81 (by decide) (by rw [xx_81]; exact Nat.le_of_ble_eq_true rfl) rfl (hS.k rfl), by rw [xx_81]; exact h⟩
theorem ck_82 {t : Nat} {σ : Mm} {w : Option Value × Mm} {x1 : Int32} {x2 : Int32} {x3 : Int32} (hS : Sg t σ)  (h : Ev 82 0 [.ref 53, .int x1, .int x2, .int x3, .retAddr 0, .retAddr 0] [] σ w) : Cl 82 [.ref 53, .int x1, .int x2, .int x3] σ w :=
  ⟨okr_v (by decide +kernel) oo_82 (by decide) (by rw [xx_82]; exact Nat.le_of_ble_eq_true rfl) rfl (hS.k rfl), by rw [xx_82]; exact h⟩
theorem ck_83 {t : Nat} {σ : Mm} {w : Option Value × Mm} {x1 : Int32} (hS : Sg t σ)  (h : Ev 83 0 [.ref 53, .int x1, .retAddr 0] [] σ w) : Cl 83 [.ref 53, .int x1] σ w :=
  ⟨okr_v (by decide +kernel) oo_83 (by decide) (by rw [xx_83]; exact Nat.le_of_ble_eq_true rfl) rfl (hS.k rfl), by rw [xx_83]; exact h⟩
theorem ck_84 {t : Nat} {σ : Mm} {w : Option Value × Mm} {x1 : Int32} {x2 : Int32} (hS : Sg t σ)  (h : Ev 84 0 [.ref 53, .int x1, .int x2, .retAddr 0, .retAddr 0, .retAddr 0] [] σ w) : Cl 84 [.ref 53, .int x1, .int x2] σ w :=
  ⟨okr_v (by decide +kernel) oo_84 (by decide) (by rw [xx_84]; exact Nat.le_of_ble_eq_true rfl) rfl (hS.k rfl), by rw [xx_84]; exact h⟩
theorem ck_85 {t : Nat} {σ : Mm} {w : Option Value × Mm} {x1 : Int32} {x2 : Int32} (hS : Sg t σ)  (h : Ev 85 0 [.ref 53, .int x1, .int x2] [] σ w) : Cl 85 [.ref 53, .int x1, .int x2] σ w :=
  ⟨okr_v (by decide +kernel) oo_85 (by decide) (by rw [xx_85]; exact Nat.le_of_ble_eq_true rfl) rfl (hS.k rfl), by rw [xx_85]; exact h⟩
theorem ck_86 {t : Nat} {σ : Mm} {w : Option Value × Mm} {x1 : Int32} {x2 : Int32} (hS : Sg t σ)  (h : Ev 86 0 [.ref 53, .int x1, .int x2, .retAddr 0, .retAddr 0] [] σ w) : Cl 86 [.ref 53, .int x1, .int x2] σ w :=
  ⟨okr_v (by decide +kernel) oo_86 (by decide) (by rw [xx_86]; exact Nat.le_of_ble_eq_true rfl) rfl (hS.k rfl), by rw [xx_86]; exact h⟩
theorem ck_88 {t : Nat} {σ : Mm} {w : Option Value × Mm} {a : Nat} (hS : Sg t σ) (ha : a = 3 ∨ a = 15) (h : Ev 88 0 [.ref a, .retAddr 0] [] σ w) : Cl 88 [.ref a] σ w :=
  ⟨okr_v (by decide +kernel) oo_88 (by decide) (by rw [xx_88]; exact Nat.le_of_ble_eq_true rfl) rfl (hS.k (kT ha)), by rw [xx_88]; exact h⟩
theorem ck_89 {t : Nat} {σ : Mm} {w : Option Value × Mm} {a : Nat} {x1 : Int32} (hS : Sg t σ) (ha : a = 3 ∨ a = 15) (h : Ev 89 0 [.ref a, .int x1, .retAddr 0] [] σ w) : Cl 89 [.ref a, .int x1] σ w :=
  ⟨okr_v (by decide +kernel) oo_89 (by decide) (by rw [xx_89]; exact Nat.le_of_ble_eq_true rfl) rfl (hS.k (kT ha)), by rw [xx_89]; exact h⟩
theorem ck_90 {t : Nat} {σ : Mm} {w : Option Value × Mm} {a : Nat} {x1 : Int32} (hS : Sg t σ) (ha : a = 3 ∨ a = 15) (h : Ev 90 0 [.ref a, .int x1, .retAddr 0] [] σ w) : Cl 90 [.ref a, .int x1] σ w :=
  ⟨okr_v (by decide +kernel) oo_90 (by decide) (by rw [xx_90]; exact Nat.le_of_ble_eq_true rfl) rfl (hS.k (kT ha)), by rw [xx_90]; exact h⟩
theorem ck_91 {t : Nat} {σ : Mm} {w : Option Value × Mm} {a : Nat} {x1 : Int32} (hS : Sg t σ) (ha : a = 3 ∨ a = 15) (h : Ev 91 0 [.ref a, .int x1] [] σ w) : Cl 91 [.ref a, .int x1] σ w :=
  ⟨okr_v (by decide +kernel) oo_91 (by decide) (by rw [xx_91]; exact Nat.le_of_ble_eq_true rfl) rfl (hS.k (kT ha)), by rw [xx_91]; exact h⟩
theorem ck_92 {t : Nat} {σ : Mm} {w : Option Value × Mm} {a : Nat} (hS : Sg t σ) (ha : a = 3 ∨ a = 15) (h : Ev 92 0 [.ref a] [] σ w) : Cl 92 [.ref a] σ w :=
  ⟨okr_v (by decide +kernel) oo_92 (by decide) (by rw [xx_92]; exact Nat.le_of_ble_eq_true rfl) rfl (hS.k (kT ha)), by rw [xx_92]; exact h⟩
theorem ck_93 {t : Nat} {σ : Mm} {w : Option Value × Mm} {a : Nat} (hS : Sg t σ) (ha : a = 3 ∨ a = 15) (h : Ev 93 0 [.ref a] [] σ w) : Cl 93 [.ref a] σ w :=
  ⟨okr_v (by decide +kernel) oo_93 (by decide) (by rw [xx_93]; exact Nat.le_of_ble_eq_true rfl) rfl (hS.k (kT ha)), by rw [xx_93]; exact h⟩
theorem ck_94 {t : Nat} {σ : Mm} {w : Option Value × Mm} {a : Nat} {x1 : Int32} (hS : Sg t σ) (ha : a = 3 ∨ a = 15) (h : Ev 94 0 [.ref a, .int x1, .retAddr 0] [] σ w) : Cl 94 [.ref a, .int x1] σ w :=
  ⟨okr_v (by decide +kernel) oo_94 (by decide) (by rw [xx_94]; exact Nat.le_of_ble_eq_true rfl) rfl (hS.k (kT ha)), by rw [xx_94]; exact h⟩
theorem ck_95 {t : Nat} {σ : Mm} {w : Option Value × Mm} {a : Nat} {x1 : Int32} (hS : Sg t σ) (ha : a = 3 ∨ a = 15) (h : Ev 95 0 [.ref a, .int x1, .retAddr 0, .retAddr 0] [] σ w) : Cl 95 [.ref a, .int x1] σ w :=
  ⟨okr_v (by decide +kernel) oo_95 (by decide) (by rw [xx_95]; exact Nat.le_of_ble_eq_true rfl) rfl (hS.k (kT ha)), by rw [xx_95]; exact h⟩
theorem ck_97 {t : Nat} {σ : Mm} {w : Option Value × Mm}  (hS : Sg t σ)  (h : Ev 97 0 [.ref 41] [] σ w) : Cl 97 [.ref 41] σ w :=
  ⟨okr_v (by decide +kernel) oo_97 (by decide) (by rw [xx_97]; exact Nat.le_of_ble_eq_true rfl) rfl (hS.k rfl), by rw [xx_97]; exact h⟩
theorem ck_98 {t : Nat} {σ : Mm} {w : Option Value × Mm} {a1 : Nat} {x2 : Int32} (hS : Sg t σ) (h1 : a1 = 26 ∨ a1 = 30 ∨ a1 = 34) (h : Ev 98 0 [.ref 41, .ref a1, .int x2, .retAddr 0] [] σ w) : Cl 98 [.ref 41, .ref a1, .int x2] σ w :=
  ⟨okr_v (by decide +kernel) oo_98 (by decide) (by rw [xx_98]; exact Nat.le_of_ble_eq_true rfl) rfl (hS.k rfl), by rw [xx_98]; exact h⟩
theorem ck_99 {t : Nat} {σ : Mm} {w : Option Value × Mm} {a1 : Nat} (hS : Sg t σ) (h1 : a1 = 26 ∨ a1 = 30 ∨ a1 = 34) (h : Ev 99 0 [.ref 41, .ref a1, .retAddr 0] [] σ w) : Cl 99 [.ref 41, .ref a1] σ w :=
  ⟨okr_v (by decide +kernel) oo_99 (by decide) (by rw [xx_99]; exact Nat.le_of_ble_eq_true rfl) rfl (hS.k rfl), by rw [xx_99]; exact h⟩
theorem ck_101 {t : Nat} {σ : Mm} {w : Option Value × Mm} {x1 : Int32} {x2 : Int32} {x3 : Int32} {x4 : Int32} {x5 : Int32} (hS : Sg t σ)  (h : Ev 101 0 [.ref 0, .int x1, .int x2, .int x3, .int x4, .int x5] [] σ w) : Cl 101 [.ref 0, .int x1, .int x2, .int x3, .int x4, .int x5] σ w :=
  ⟨okr_v (by decide +kernel) oo_101 (by decide) (by rw [xx_101]; exact Nat.le_of_ble_eq_true rfl) rfl (hS.k rfl), by rw [xx_101]; exact h⟩
theorem ck_102 {t : Nat} {σ : Mm} {w : Option Value × Mm} {x1 : Int32} (hS : Sg t σ)  (h : Ev 102 0 [.ref 0, .int x1, .retAddr 0] [] σ w) : Cl 102 [.ref 0, .int x1] σ w :=
  ⟨okr_v (by decide +kernel) oo_102 (by decide) (by rw [xx_102]; exact Nat.le_of_ble_eq_true rfl) rfl (hS.k rfl), by rw [xx_102]; exact h⟩
theorem ck_103 {t : Nat} {σ : Mm} {w : Option Value × Mm} {x1 : Int32} (hS : Sg t σ)  (h : Ev 103 0 [.ref 0, .int x1] [] σ w) : Cl 103 [.ref 0, .int x1] σ w :=
  ⟨okr_v (by decide +kernel) oo_103 (by decide) (by rw [xx_103]; exact Nat.le_of_ble_eq_true rfl) rfl (hS.k rfl), by rw [xx_103]; exact h⟩
theorem ck_104 {t : Nat} {σ : Mm} {w : Option Value × Mm} {x1 : Int32} {x2 : Int32} (hS : Sg t σ)  (h : Ev 104 0 [.ref 0, .int x1, .int x2] [] σ w) : Cl 104 [.ref 0, .int x1, .int x2] σ w :=
  ⟨okr_v (by decide +kernel) oo_104 (by decide) (by rw [xx_104]; exact Nat.le_of_ble_eq_true rfl) rfl (hS.k rfl), by rw [xx_104]; exact h⟩
theorem ck_105 {t : Nat} {σ : Mm} {w : Option Value × Mm} {x1 : Int32} {x2 : Int32} (hS : Sg t σ)  (h : Ev 105 0 [.ref 0, .int x1, .int x2] [] σ w) : Cl 105 [.ref 0, .int x1, .int x2] σ w :=
  ⟨okr_v (by decide +kernel) oo_105 (by decide) (by rw [xx_105]; exact Nat.le_of_ble_eq_true rfl) rfl (hS.k rfl), by rw [xx_105]; exact h⟩
theorem ck_106 {t : Nat} {σ : Mm} {w : Option Value × Mm} {x1 : Int32} (hS : Sg t σ)  (h : Ev 106 0 [.ref 0, .int x1] [] σ w) : Cl 106 [.ref 0, .int x1] σ w :=
  ⟨okr_v (by decide +kernel) oo_106 (by decide) (by rw [xx_106]; exact Nat.le_of_ble_eq_true rfl) rfl (hS.k rfl), by rw [xx_106]; exact h⟩
theorem ck_107 {t : Nat} {σ : Mm} {w : Option Value × Mm} {x1 : Int32} {x2 : Int32} (hS : Sg t σ)  (h : Ev 107 0 [.ref 0, .int x1, .int x2, .retAddr 0] [] σ w) : Cl 107 [.ref 0, .int x1, .int x2] σ w :=
  ⟨okr_v (by decide +kernel) oo_107 (by decide) (by rw [xx_107]; exact Nat.le_of_ble_eq_true rfl) rfl (hS.k rfl), by rw [xx_107]; exact h⟩
theorem ck_108 {t : Nat} {σ : Mm} {w : Option Value × Mm} {x1 : Int32} (hS : Sg t σ)  (h : Ev 108 0 [.ref 0, .int x1] [] σ w) : Cl 108 [.ref 0, .int x1] σ w :=
  ⟨okr_v (by decide +kernel) oo_108 (by decide) (by rw [xx_108]; exact Nat.le_of_ble_eq_true rfl) rfl (hS.k rfl), by rw [xx_108]; exact h⟩
theorem ck_109 {t : Nat} {σ : Mm} {w : Option Value × Mm} {x1 : Int32} {x2 : Int32} (hS : Sg t σ)  (h : Ev 109 0 [.ref 0, .int x1, .int x2] [] σ w) : Cl 109 [.ref 0, .int x1, .int x2] σ w :=
  ⟨okr_v (by decide +kernel) oo_109 (by decide) (by rw [xx_109]; exact Nat.le_of_ble_eq_true rfl) rfl (hS.k rfl), by rw [xx_109]; exact h⟩
theorem ck_110 {t : Nat} {σ : Mm} {w : Option Value × Mm}  (hS : Sg t σ)  (h : Ev 110 0 [.ref 0] [] σ w) : Cl 110 [.ref 0] σ w :=
  ⟨okr_v (by decide +kernel) oo_110 (by decide) (by rw [xx_110]; exact Nat.le_of_ble_eq_true rfl) rfl (hS.k rfl), by rw [xx_110]; exact h⟩
theorem ck_111 {t : Nat} {σ : Mm} {w : Option Value × Mm} {x1 : Int32} (hS : Sg t σ)  (h : Ev 111 0 [.ref 0, .int x1] [] σ w) : Cl 111 [.ref 0, .int x1] σ w :=
  ⟨okr_v (by decide +kernel) oo_111 (by decide) (by rw [xx_111]; exact Nat.le_of_ble_eq_true rfl) rfl (hS.k rfl), by rw [xx_111]; exact h⟩
theorem ck_112 {t : Nat} {σ : Mm} {w : Option Value × Mm} {x1 : Int32} {x2 : Int32} (hS : Sg t σ)  (h : Ev 112 0 [.ref 0, .int x1, .int x2] [] σ w) : Cl 112 [.ref 0, .int x1, .int x2] σ w :=
  ⟨okr_v (by decide +kernel) oo_112 (by decide) (by rw [xx_112]; exact Nat.le_of_ble_eq_true rfl) rfl (hS.k rfl), by rw [xx_112]; exact h⟩
theorem ck_113 {t : Nat} {σ : Mm} {w : Option Value × Mm} {x1 : Int32} (hS : Sg t σ)  (h : Ev 113 0 [.ref 0, .int x1, .retAddr 0] [] σ w) : Cl 113 [.ref 0, .int x1] σ w :=
  ⟨okr_v (by decide +kernel) oo_113 (by decide) (by rw [xx_113]; exact Nat.le_of_ble_eq_true rfl) rfl (hS.k rfl), by rw [xx_113]; exact h⟩
theorem ck_114 {t : Nat} {σ : Mm} {w : Option Value × Mm} {x1 : Int32} (hS : Sg t σ)  (h : Ev 114 0 [.ref 0, .int x1] [] σ w) : Cl 114 [.ref 0, .int x1] σ w :=
  ⟨okr_v (by decide +kernel) oo_114 (by decide) (by rw [xx_114]; exact Nat.le_of_ble_eq_true rfl) rfl (hS.k rfl), by rw [xx_114]; exact h⟩
theorem ck_115 {t : Nat} {σ : Mm} {w : Option Value × Mm} {x1 : Int32} (hS : Sg t σ)  (h : Ev 115 0 [.ref 0, .int x1] [] σ w) : Cl 115 [.ref 0, .int x1] σ w :=
  ⟨okr_v (by decide +kernel) oo_115 (by decide) (by rw [xx_115]; exact Nat.le_of_ble_eq_true rfl) rfl (hS.k rfl), by rw [xx_115]; exact h⟩
theorem ck_116 {t : Nat} {σ : Mm} {w : Option Value × Mm} {x1 : Int32} {x2 : Int32} (hS : Sg t σ)  (h : Ev 116 0 [.ref 0, .int x1, .int x2, .retAddr 0] [] σ w) : Cl 116 [.ref 0, .int x1, .int x2] σ w :=
  ⟨okr_v (by decide +kernel) oo_116 (by decide) (by rw [xx_116]; exact Nat.le_of_ble_eq_true rfl) rfl (hS.k rfl), by rw [xx_116]; exact h⟩
theorem ck_117 {t : Nat} {σ : Mm} {w : Option Value × Mm} {x1 : Int32} {x2 : Int32} (hS : Sg t σ)  (h : Ev 117 0 [.ref 0, .int x1, .int x2, .retAddr 0] [] σ w) : Cl 117 [.ref 0, .int x1, .int x2] σ w :=
  ⟨okr_v (by decide +kernel) oo_117 (by decide) (by rw [xx_117]; exact Nat.le_of_ble_eq_true rfl) rfl (hS.k rfl), by rw [xx_117]; exact h⟩
theorem ck_118 {t : Nat} {σ : Mm} {w : Option Value × Mm}  (hS : Sg t σ)  (h : Ev 118 0 [.ref 0] [] σ w) : Cl 118 [.ref 0] σ w :=
  ⟨okr_v (by decide +kernel) oo_118 (by decide) (by rw [xx_118]; exact Nat.le_of_ble_eq_true rfl) rfl (hS.k rfl), by rw [xx_118]; exact h⟩
theorem ck_119 {t : Nat} {σ : Mm} {w : Option Value × Mm}  (hS : Sg t σ)  (h : Ev 119 0 [.ref 0] [] σ w) : Cl 119 [.ref 0] σ w :=
  ⟨okr_v (by decide +kernel) oo_119 (by decide) (by rw [xx_119]; exact Nat.le_of_ble_eq_true rfl) rfl (hS.k rfl), by rw [xx_119]; exact h⟩
theorem ck_120 {t : Nat} {σ : Mm} {w : Option Value × Mm} {x1 : Int32} (hS : Sg t σ)  (h : Ev 120 0 [.ref 0, .int x1, .retAddr 0] [] σ w) : Cl 120 [.ref 0, .int x1] σ w :=
  ⟨okr_v (by decide +kernel) oo_120 (by decide) (by rw [xx_120]; exact Nat.le_of_ble_eq_true rfl) rfl (hS.k rfl), by rw [xx_120]; exact h⟩
theorem ck_121 {t : Nat} {σ : Mm} {w : Option Value × Mm} {x1 : Int32} (hS : Sg t σ)  (h : Ev 121 0 [.ref 0, .int x1] [] σ w) : Cl 121 [.ref 0, .int x1] σ w :=
  ⟨okr_v (by decide +kernel) oo_121 (by decide) (by rw [xx_121]; exact Nat.le_of_ble_eq_true rfl) rfl (hS.k rfl), by rw [xx_121]; exact h⟩
theorem ck_122 {t : Nat} {σ : Mm} {w : Option Value × Mm} {x1 : Int32} (hS : Sg t σ)  (h : Ev 122 0 [.ref 0, .int x1, .retAddr 0, .retAddr 0] [] σ w) : Cl 122 [.ref 0, .int x1] σ w :=
  ⟨okr_v (by decide +kernel) oo_122 (by decide) (by rw [xx_122]; exact Nat.le_of_ble_eq_true rfl) rfl (hS.k rfl), by rw [xx_122]; exact h⟩
theorem ck_123 {t : Nat} {σ : Mm} {w : Option Value × Mm} {x1 : Int32} (hS : Sg t σ)  (h : Ev 123 0 [.ref 0, .int x1, .retAddr 0, .retAddr 0, .retAddr 0, .retAddr 0] [] σ w) : Cl 123 [.ref 0, .int x1] σ w :=
  ⟨okr_v (by decide +kernel) oo_123 (by decide) (by rw [xx_123]; exact Nat.le_of_ble_eq_true rfl) rfl (hS.k rfl), by rw [xx_123]; exact h⟩
theorem ck_124 {t : Nat} {σ : Mm} {w : Option Value × Mm}  (hS : Sg t σ)  (h : Ev 124 0 [.ref 0, .retAddr 0, .retAddr 0, .retAddr 0] [] σ w) : Cl 124 [.ref 0] σ w :=
  ⟨okr_v (by decide +kernel) oo_124 (by decide) (by rw [xx_124]; exact Nat.le_of_ble_eq_true rfl) rfl (hS.k rfl), by rw [xx_124]; exact h⟩
theorem ck_125 {t : Nat} {σ : Mm} {w : Option Value × Mm} {x1 : Int32} (hS : Sg t σ)  (h : Ev 125 0 [.ref 0, .int x1, .retAddr 0, .retAddr 0, .retAddr 0, .retAddr 0] [] σ w) : Cl 125 [.ref 0, .int x1] σ w :=
  ⟨okr_v (by decide +kernel) oo_125 (by decide) (by rw [xx_125]; exact Nat.le_of_ble_eq_true rfl) rfl (hS.k rfl), by rw [xx_125]; exact h⟩
theorem ck_126 {t : Nat} {σ : Mm} {w : Option Value × Mm} {x1 : Int32} {x2 : Int32} (hS : Sg t σ)  (h : Ev 126 0 [.ref 0, .int x1, .int x2, .retAddr 0] [] σ w) : Cl 126 [.ref 0, .int x1, .int x2] σ w :=
  ⟨okr_v (by decide +kernel) oo_126 (by decide) (by rw [xx_126]; exact Nat.le_of_ble_eq_true rfl) rfl (hS.k rfl), by rw [xx_126]; exact h⟩
theorem ck_127 {t : Nat} {σ : Mm} {w : Option Value × Mm} {x1 : Int32} (hS : Sg t σ)  (h : Ev 127 0 [.ref 0, .int x1] [] σ w) : Cl 127 [.ref 0, .int x1] σ w :=
  ⟨okr_v (by decide +kernel) oo_127 (by decide) (by rw [xx_127]; exact Nat.le_of_ble_eq_true rfl) rfl (hS.k rfl), by rw [xx_127]; exact h⟩
theorem ck_128 {t : Nat} {σ : Mm} {w : Option Value × Mm} {x1 : Int32} (hS : Sg t σ)  (h : Ev 128 0 [.ref 0, .int x1, .retAddr 0, .retAddr 0] [] σ w) : Cl 128 [.ref 0, .int x1] σ w :=
  ⟨okr_v (by decide +kernel) oo_128 (by decide) (by rw [xx_128]; exact Nat.le_of_ble_eq_true rfl) rfl (hS.k rfl), by rw [xx_128]; exact h⟩
theorem ck_129 {t : Nat} {σ : Mm} {w : Option Value × Mm} {x1 : Int32} {x2 : Int32} (hS : Sg t σ)  (h : Ev 129 0 [.ref 0, .int x1, .int x2, .retAddr 0, .retAddr 0, .retAddr 0, .retAddr 0, .retAddr 0, .retAddr 0, .retAddr 0] [] σ w) : Cl 129 [.ref 0, .int x1, .int x2] σ w :=
  ⟨okr_v (by decide +kernel) oo_129 (by decide) (by rw [xx_129]; exact Nat.le_of_ble_eq_true rfl) rfl (hS.k rfl), by rw [xx_129]; exact h⟩
theorem ck_130 {t : Nat} {σ : Mm} {w : Option Value × Mm} {x1 : Int32} {x2 : Int32} {x3 : Int32} (hS : Sg t σ)  (h : Ev 130 0 [.ref 0, .int x1, .int x2, .int x3, .retAddr 0] [] σ w) : Cl 130 [.ref 0, .int x1, .int x2, .int x3] σ w :=
  ⟨okr_v (by decide +kernel) oo_130 (by decide) (by rw [xx_130]; exact Nat.le_of_ble_eq_true rfl) rfl (hS.k rfl), by rw [xx_130]; exact h⟩
theorem ck_131 {t : Nat} {σ : Mm} {w : Option Value × Mm} {x1 : Int32} (hS : Sg t σ)  (h : Ev 131 0 [.ref 0, .int x1] [] σ w) : Cl 131 [.ref 0, .int x1] σ w :=
  ⟨okr_v (by decide +kernel) oo_131 (by decide) (by rw [xx_131]; exact Nat.le_of_ble_eq_true rfl) rfl (hS.k rfl), by rw [xx_131]; exact h⟩
theorem ck_132 {t : Nat} {σ : Mm} {w : Option Value × Mm} {x1 : Int32} (hS : Sg t σ)  (h : Ev 132 0 [.ref 0, .int x1] [] σ w) : Cl 132 [.ref 0, .int x1] σ w :=
  ⟨okr_v (by decide +kernel) oo_132 (by decide) (by rw [xx_132]; exact Nat.le_of_ble_eq_true rfl) rfl (hS.k rfl), by rw [xx_132]; exact h⟩
theorem ck_133 {t : Nat} {σ : Mm} {w : Option Value × Mm}  (hS : Sg t σ)  (h : Ev 133 0 [.ref 0] [] σ w) : Cl 133 [.ref 0] σ w :=
  ⟨okr_v (by decide +kernel) oo_133 (by decide) (by rw [xx_133]; exact Nat.le_of_ble_eq_true rfl) rfl (hS.k rfl), by rw [xx_133]; exact h⟩
theorem ck_134 {t : Nat} {σ : Mm} {w : Option Value × Mm} {x1 : Int32} (hS : Sg t σ)  (h : Ev 134 0 [.ref 0, .int x1] [] σ w) : Cl 134 [.ref 0, .int x1] σ w :=
  ⟨okr_v (by decide +kernel) oo_134 (by decide) (by rw [xx_134]; exact Nat.le_of_ble_eq_true rfl) rfl (hS.k rfl), by rw [xx_134]; exact h⟩
theorem ck_135 {t : Nat} {σ : Mm} {w : Option Value × Mm}  (hS : Sg t σ)  (h : Ev 135 0 [.ref 0, .retAddr 0] [] σ w) : Cl 135 [.ref 0] σ w :=
  ⟨okr_v (by decide +kernel) oo_135 (by decide) (by rw [xx_135]; exact Nat.le_of_ble_eq_true rfl) rfl (hS.k rfl), by rw [xx_135]; exact h⟩
theorem ck_136 {t : Nat} {σ : Mm} {w : Option Value × Mm} {x1 : Int32} {x2 : Int32} {x3 : Int32} (hS : Sg t σ)  (h : Ev 136 0 [.ref 0, .int x1, .int x2, .int x3, .retAddr 0, .retAddr 0, .retAddr 0] [] σ w) : Cl 136 [.ref 0, .int x1, .int x2, .int x3] σ w :=
  ⟨okr_v (by decide +kernel) oo_136 (by decide) (by rw [xx_136]; exact Nat.le_of_ble_eq_true rfl) rfl (hS.k rfl), by rw [xx_136]; exact h⟩
theorem ck_137 {t : Nat} {σ : Mm} {w : Option Value × Mm} {x1 : Int32} {x2 : Int32} {x3 : Int32} (hS : Sg t σ)  (h : Ev 137 0 [.ref 0, .int x1, .int x2, .int x3, .retAddr 0] [] σ w) : Cl 137 [.ref 0, .int x1, .int x2, .int x3] σ w :=
  ⟨okr_v (by decide +kernel) oo_137 (by decide) (by rw [xx_137]; exact Nat.le_of_ble_eq_true rfl) rfl (hS.k rfl), by rw [xx_137]; exact h⟩
theorem ck_138 {t : Nat} {σ : Mm} {w : Option Value × Mm}  (hS : Sg t σ)  (h : Ev 138 0 [.ref 0] [] σ w) : Cl 138 [.ref 0] σ w :=
  ⟨okr_v (by decide +kernel) oo_138 (by decide) (by rw [xx_138]; exact Nat.le_of_ble_eq_true rfl) rfl (hS.k rfl), by rw [xx_138]; exact h⟩
theorem ck_139 {t : Nat} {σ : Mm} {w : Option Value × Mm}  (hS : Sg t σ)  (h : Ev 139 0 [.ref 0] [] σ w) : Cl 139 [.ref 0] σ w :=
  ⟨okr_v (by decide +kernel) oo_139 (by decide) (by rw [xx_139]; exact Nat.le_of_ble_eq_true rfl) rfl (hS.k rfl), by rw [xx_139]; exact h⟩
theorem ck_140 {t : Nat} {σ : Mm} {w : Option Value × Mm}  (hS : Sg t σ)  (h : Ev 140 0 [.ref 0] [] σ w) : Cl 140 [.ref 0] σ w :=
  ⟨okr_v (by decide +kernel) oo_140 (by decide) (by rw [xx_140]; exact Nat.le_of_ble_eq_true rfl) rfl (hS.k rfl), by rw [xx_140]; exact h⟩
theorem ck_141 {t : Nat} {σ : Mm} {w : Option Value × Mm} {x1 : Int32} (hS : Sg t σ)  (h : Ev 141 0 [.ref 0, .int x1] [] σ w) : Cl 141 [.ref 0, .int x1] σ w :=
  ⟨okr_v (by decide +kernel) oo_141 (by decide) (by rw [xx_141]; exact Nat.le_of_ble_eq_true rfl) rfl (hS.k rfl), by rw [xx_141]; exact h⟩
theorem ck_142 {t : Nat} {σ : Mm} {w : Option Value × Mm} {x1 : Int32} (hS : Sg t σ)  (h : Ev 142 0 [.ref 0, .int x1] [] σ w) : Cl 142 [.ref 0, .int x1] σ w :=
  ⟨okr_v (by decide +kernel) oo_142 (by decide) (by rw [xx_142]; exact Nat.le_of_ble_eq_true rfl) rfl (hS.k rfl), by rw [xx_142]; exact h⟩
theorem ck_143 {t : Nat} {σ : Mm} {w : Option Value × Mm} {x1 : Int32} (hS : Sg t σ)  (h : Ev 143 0 [.ref 0, .int x1] [] σ w) : Cl 143 [.ref 0, .int x1] σ w :=
  ⟨okr_v (by decide +kernel) oo_143 (by decide) (by rw [xx_143]; exact Nat.le_of_ble_eq_true rfl) rfl (hS.k rfl), by rw [xx_143]; exact h⟩
theorem ck_144 {t : Nat} {σ : Mm} {w : Option Value × Mm} {x1 : Int32} (hS : Sg t σ)  (h : Ev 144 0 [.ref 0, .int x1] [] σ w) : Cl 144 [.ref 0, .int x1] σ w :=
  ⟨okr_v (by decide +kernel) oo_144 (by decide) (by rw [xx_144]; exact Nat.le_of_ble_eq_true rfl) rfl (hS.k rfl), by rw [xx_144]; exact h⟩
theorem ck_145 {t : Nat} {σ : Mm} {w : Option Value × Mm}  (hS : Sg t σ)  (h : Ev 145 0 [.ref 0] [] σ w) : Cl 145 [.ref 0] σ w :=
  ⟨okr_v (by decide +kernel) oo_145 (by decide) (by rw [xx_145]; exact Nat.le_of_ble_eq_true rfl) rfl (hS.k rfl), by rw [xx_145]; exact h⟩
theorem ck_146 {t : Nat} {σ : Mm} {w : Option Value × Mm}  (hS : Sg t σ)  (h : Ev 146 0 [.ref 0] [] σ w) : Cl 146 [.ref 0] σ w :=
  ⟨okr_v (by decide +kernel) oo_146 (by decide) (by rw [xx_146]; exact Nat.le_of_ble_eq_true rfl) rfl (hS.k rfl), by rw [xx_146]; exact h⟩
theorem ck_147 {t : Nat} {σ : Mm} {w : Option Value × Mm} {x1 : Int32} {x2 : Int32} (hS : Sg t σ)  (h : Ev 147 0 [.ref 0, .int x1, .int x2, .retAddr 0, .retAddr 0] [] σ w) : Cl 147 [.ref 0, .int x1, .int x2] σ w :=
  ⟨okr_v (by decide +kernel) oo_147 (by decide) (by rw [xx_147]; exact Nat.le_of_ble_eq_true rfl) rfl (hS.k rfl), by rw [xx_147]; exact h⟩
theorem ck_148 {t : Nat} {σ : Mm} {w : Option Value × Mm}  (hS : Sg t σ)  (h : Ev 148 0 [.ref 0] [] σ w) : Cl 148 [.ref 0] σ w :=
  ⟨okr_v (by decide +kernel) oo_148 (by decide) (by rw [xx_148]; exact Nat.le_of_ble_eq_true rfl) rfl (hS.k rfl), by rw [xx_148]; exact h⟩
theorem ck_150 {t : Nat} {σ : Mm} {w : Option Value × Mm}  (hS : Sg t σ)  (h : Ev 150 0 [.ref 59] [] σ w) : Cl 150 [.ref 59] σ w :=
  ⟨okr_v (by decide +kernel) oo_150 (by decide) (by rw [xx_150]; exact Nat.le_of_ble_eq_true rfl) rfl (hS.k rfl), by rw [xx_150]; exact h⟩
theorem ck_151 {t : Nat} {σ : Mm} {w : Option Value × Mm} {x1 : Int32} {x2 : Int32} {x3 : Int32} {x4 : Int32} {x5 : Int32} (hS : Sg t σ)  (h : Ev 151 0 [.ref 59, .int x1, .int x2, .int x3, .int x4, .int x5, .retAddr 0, .retAddr 0] [] σ w) : Cl 151 [.ref 59, .int x1, .int x2, .int x3, .int x4, .int x5] σ w :=
  ⟨okr_v (by decide +kernel) oo_151 (by decide) (by rw [xx_151]; exact Nat.le_of_ble_eq_true rfl) rfl (hS.k rfl), by rw [xx_151]; exact h⟩
theorem ck_152 {t : Nat} {σ : Mm} {w : Option Value × Mm} {x0 : Int32} {x1 : Int32} {x2 : Int32} (hS : Sg t σ)  (h : Ev 152 0 [.int x0, .int x1, .int x2] [] σ w) : Cl 152 [.int x0, .int x1, .int x2] σ w :=
  ⟨okr_s (by decide +kernel) (by rw [xx_152]; exact Nat.le_of_ble_eq_true rfl) rfl, by rw [xx_152]; exact h⟩
theorem ck_153 {t : Nat} {σ : Mm} {w : Option Value × Mm} {x0 : Int32} {x1 : Int32} (hS : Sg t σ)  (h : Ev 153 0 [.int x0, .int x1] [] σ w) : Cl 153 [.int x0, .int x1] σ w :=
  ⟨okr_s (by decide +kernel) (by rw [xx_153]; exact Nat.le_of_ble_eq_true rfl) rfl, by rw [xx_153]; exact h⟩
theorem ck_154 {t : Nat} {σ : Mm} {w : Option Value × Mm} {x1 : Int32} (hS : Sg t σ)  (h : Ev 154 0 [.ref 59, .int x1] [] σ w) : Cl 154 [.ref 59, .int x1] σ w :=
  ⟨okr_v (by decide +kernel) oo_154 (by decide) (by rw [xx_154]; exact Nat.le_of_ble_eq_true rfl) rfl (hS.k rfl), by rw [xx_154]; exact h⟩
theorem ck_155 {t : Nat} {σ : Mm} {w : Option Value × Mm} {x1 : Int32} {x2 : Int32} (hS : Sg t σ)  (h : Ev 155 0 [.ref 59, .int x1, .int x2, .retAddr 0, .retAddr 0, .retAddr 0, .retAddr 0, .retAddr 0] [] σ w) : Cl 155 [.ref 59, .int x1, .int x2] σ w :=
  ⟨okr_v (by decide +kernel) oo_155 (by decide) (by rw [xx_155]; exact Nat.le_of_ble_eq_true rfl) rfl (hS.k rfl), by rw [xx_155]; exact h⟩
theorem ck_156 {t : Nat} {σ : Mm} {w : Option Value × Mm} {x1 : Int32} (hS : Sg t σ)  (h : Ev 156 0 [.ref 59, .int x1] [] σ w) : Cl 156 [.ref 59, .int x1] σ w :=
  ⟨okr_v (by decide +kernel) oo_156 (by decide) (by rw [xx_156]; exact Nat.le_of_ble_eq_true rfl) rfl (hS.k rfl), by rw [xx_156]; exact h⟩
theorem ck_157 {t : Nat} {σ : Mm} {w : Option Value × Mm} {x1 : Int32} (hS : Sg t σ)  (h : Ev 157 0 [.ref 59, .int x1] [] σ w) : Cl 157 [.ref 59, .int x1] σ w :=
  ⟨okr_v (by decide +kernel) oo_157 (by decide) (by rw [xx_157]; exact Nat.le_of_ble_eq_true rfl) rfl (hS.k rfl), by rw [xx_157]; exact h⟩
theorem ck_158 {t : Nat} {σ : Mm} {w : Option Value × Mm}  (hS : Sg t σ)  (h : Ev 158 0 [.ref 59] [] σ w) : Cl 158 [.ref 59] σ w :=
  ⟨okr_v (by decide +kernel) oo_158 (by decide) (by rw [xx_158]; exact Nat.le_of_ble_eq_true rfl) rfl (hS.k rfl), by rw [xx_158]; exact h⟩
theorem ck_159 {t : Nat} {σ : Mm} {w : Option Value × Mm}  (hS : Sg t σ)  (h : Ev 159 0 [.ref 59, .retAddr 0, .retAddr 0, .retAddr 0] [] σ w) : Cl 159 [.ref 59] σ w :=
  ⟨okr_v (by decide +kernel) oo_159 (by decide) (by rw [xx_159]; exact Nat.le_of_ble_eq_true rfl) rfl (hS.k rfl), by rw [xx_159]; exact h⟩
theorem ck_160 {t : Nat} {σ : Mm} {w : Option Value × Mm} {x1 : Int32} {x2 : Int32} (hS : Sg t σ)  (h : Ev 160 0 [.ref 59, .int x1, .int x2, .retAddr 0, .retAddr 0] [] σ w) : Cl 160 [.ref 59, .int x1, .int x2] σ w :=
  ⟨okr_v (by decide +kernel) oo_160 (by decide) (by rw [xx_160]; exact Nat.le_of_ble_eq_true rfl) rfl (hS.k rfl), by rw [xx_160]; exact h⟩
theorem ck_161 {t : Nat} {σ : Mm} {w : Option Value × Mm} {x1 : Int32} (hS : Sg t σ)  (h : Ev 161 0 [.ref 59, .int x1] [] σ w) : Cl 161 [.ref 59, .int x1] σ w :=
  ⟨okr_v (by decide +kernel) oo_161 (by decide) (by rw [xx_161]; exact Nat.le_of_ble_eq_true rfl) rfl (hS.k rfl), by rw [xx_161]; exact h⟩
theorem ck_162 {t : Nat} {σ : Mm} {w : Option Value × Mm} {x1 : Int32} (hS : Sg t σ)  (h : Ev 162 0 [.ref 59, .int x1] [] σ w) : Cl 162 [.ref 59, .int x1] σ w :=
  ⟨okr_v (by decide +kernel) oo_162 (by decide) (by rw [xx_162]; exact Nat.le_of_ble_eq_true rfl) rfl (hS.k rfl), by rw [xx_162]; exact h⟩
theorem ck_163 {t : Nat} {σ : Mm} {w : Option Value × Mm} {x1 : Int32} {x2 : Int32} (hS : Sg t σ)  (h : Ev 163 0 [.ref 59, .int x1, .int x2] [] σ w) : Cl 163 [.ref 59, .int x1, .int x2] σ w :=
  ⟨okr_v (by decide +kernel) oo_163 (by decide) (by rw [xx_163]; exact Nat.le_of_ble_eq_true rfl) rfl (hS.k rfl), by rw [xx_163]; exact h⟩
theorem ck_164 {t : Nat} {σ : Mm} {w : Option Value × Mm}  (hS : Sg t σ)  (h : Ev 164 0 [.ref 59, .retAddr 0] [] σ w) : Cl 164 [.ref 59] σ w :=
  ⟨okr_v (by decide +kernel) oo_164 (by decide) (by rw [xx_164]; exact Nat.le_of_ble_eq_true rfl) rfl (hS.k rfl), by rw [xx_164]; exact h⟩
theorem ck_165 {t : Nat} {σ : Mm} {w : Option Value × Mm} {a0 n0 : Nat} {x1 : Int32} (hS : Sg t σ) (h0 : KS[a0]? = some (11, n0)) (h : Ev 165 0 [.ref a0, .int x1, .retAddr 0] [] σ w) : Cl 165 [.ref a0, .int x1] σ w :=
  ⟨okr_s (by decide +kernel) (by rw [xx_165]; exact Nat.le_of_ble_eq_true rfl) rfl, by rw [xx_165]; exact h⟩
theorem ck_166 {t : Nat} {σ : Mm} {w : Option Value × Mm}  (hS : Sg t σ)  (h : Ev 166 0 [.ref 59, .retAddr 0] [] σ w) : Cl 166 [.ref 59] σ w :=
  ⟨okr_v (by decide +kernel) oo_166 (by decide) (by rw [xx_166]; exact Nat.le_of_ble_eq_true rfl) rfl (hS.k rfl), by rw [xx_166]; exact h⟩
theorem ck_167 {t : Nat} {σ : Mm} {w : Option Value × Mm} {a0 n0 : Nat} {x1 : Int32} {x2 : Int32} {x3 : Int32} (hS : Sg t σ) (h0 : KS[a0]? = some (11, n0)) (h : Ev 167 0 [.ref a0, .int x1, .int x2, .int x3, .retAddr 0] [] σ w) : Cl 167 [.ref a0, .int x1, .int x2, .int x3] σ w :=
  ⟨okr_s (by decide +kernel) (by rw [xx_167]; exact Nat.le_of_ble_eq_true rfl) rfl, by rw [xx_167]; exact h⟩
theorem ck_168 {t : Nat} {σ : Mm} {w : Option Value × Mm} {a1 n1 : Nat} {x2 : Int32} {x3 : Int32} (hS : Sg t σ) (h1 : KS[a1]? = some (11, n1)) (h : Ev 168 0 [.ref 59, .ref a1, .int x2, .int x3] [] σ w) : Cl 168 [.ref 59, .ref a1, .int x2, .int x3] σ w :=
  ⟨okr_v (by decide +kernel) oo_168 (by decide) (by rw [xx_168]; exact Nat.le_of_ble_eq_true rfl) rfl (hS.k rfl), by rw [xx_168]; exact h⟩
theorem ck_169 {t : Nat} {σ : Mm} {w : Option Value × Mm} {a1 n1 : Nat} {x2 : Int32} {x3 : Int32} (hS : Sg t σ) (h1 : KS[a1]? = some (11, n1)) (h : Ev 169 0 [.ref 59, .ref a1, .int x2, .int x3, .retAddr 0] [] σ w) : Cl 169 [.ref 59, .ref a1, .int x2, .int x3] σ w :=
  ⟨okr_v (by decide +kernel) oo_169 (by decide) (by rw [xx_169]; exact Nat.le_of_ble_eq_true rfl) rfl (hS.k rfl), by rw [xx_169]; exact h⟩
theorem ck_170 {t : Nat} {σ : Mm} {w : Option Value × Mm}  (hS : Sg t σ)  (h : Ev 170 0 [.ref 59] [] σ w) : Cl 170 [.ref 59] σ w :=
  ⟨okr_v (by decide +kernel) oo_170 (by decide) (by rw [xx_170]; exact Nat.le_of_ble_eq_true rfl) rfl (hS.k rfl), by rw [xx_170]; exact h⟩
theorem ck_171 {t : Nat} {σ : Mm} {w : Option Value × Mm} {x1 : Int32} (hS : Sg t σ)  (h : Ev 171 0 [.ref 59, .int x1, .retAddr 0] [] σ w) : Cl 171 [.ref 59, .int x1] σ w :=
  ⟨okr_v (by decide +kernel) oo_171 (by decide) (by rw [xx_171]; exact Nat.le_of_ble_eq_true rfl) rfl (hS.k rfl), by rw [xx_171]; exact h⟩
theorem ck_172 {t : Nat} {σ : Mm} {w : Option Value × Mm}  (hS : Sg t σ)  (h : Ev 172 0 [.ref 59, .retAddr 0] [] σ w) : Cl 172 [.ref 59] σ w :=
  ⟨okr_v (by decide +kernel) oo_172 (by decide) (by rw [xx_172]; exact Nat.le_of_ble_eq_true rfl) rfl (hS.k rfl), by rw [xx_172]; exact h⟩
theorem ck_173 {t : Nat} {σ : Mm} {w : Option Value × Mm}  (hS : Sg t σ)  (h : Ev 173 0 [.ref 59] [] σ w) : Cl 173 [.ref 59] σ w :=
  ⟨okr_v (by decide +kernel) oo_173 (by decide) (by rw [xx_173]; exact Nat.le_of_ble_eq_true rfl) rfl (hS.k rfl), by rw [xx_173]; exact h⟩
theorem ck_174 {t : Nat} {σ : Mm} {w : Option Value × Mm}  (hS : Sg t σ)  (h : Ev 174 0 [.ref 59, .retAddr 0] [] σ w) : Cl 174 [.ref 59] σ w :=
  ⟨okr_v (by decide +kernel) oo_174 (by decide) (by rw [xx_174]; exact Nat.le_of_ble_eq_true rfl) rfl (hS.k rfl), by rw [xx_174]; exact h⟩
theorem ck_175 {t : Nat} {σ : Mm} {w : Option Value × Mm}  (hS : Sg t σ)  (h : Ev 175 0 [.ref 59] [] σ w) : Cl 175 [.ref 59] σ w :=
  ⟨okr_v (by decide +kernel) oo_175 (by decide) (by rw [xx_175]; exact Nat.le_of_ble_eq_true rfl) rfl (hS.k rfl), by rw [xx_175]; exact h⟩
theorem ck_176 {t : Nat} {σ : Mm} {w : Option Value × Mm} {x1 : Int32} {x2 : Int32} (hS : Sg t σ)  (h : Ev 176 0 [.ref 59, .int x1, .int x2] [] σ w) : Cl 176 [.ref 59, .int x1, .int x2] σ w :=
  ⟨okr_v (by decide +kernel) oo_176 (by decide) (by rw [xx_176]; exact Nat.le_of_ble_eq_true rfl) rfl (hS.k rfl), by rw [xx_176]; exact h⟩
theorem ck_177 {t : Nat} {σ : Mm} {w : Option Value × Mm}  (hS : Sg t σ)  (h : Ev 177 0 [.ref 59, .retAddr 0, .retAddr 0] [] σ w) : Cl 177 [.ref 59] σ w :=
  ⟨okr_v (by decide +kernel) oo_177 (by decide) (by rw [xx_177]; exact Nat.le_of_ble_eq_true rfl) rfl (hS.k rfl), by rw [xx_177]; exact h⟩
theorem ck_178 {t : Nat} {σ : Mm} {w : Option Value × Mm} {x1 : Int32} (hS : Sg t σ)  (h : Ev 178 0 [.ref 59, .int x1, .retAddr 0] [] σ w) : Cl 178 [.ref 59, .int x1] σ w :=
  ⟨okr_v (by decide +kernel) oo_178 (by decide) (by rw [xx_178]; exact Nat.le_of_ble_eq_true rfl) rfl (hS.k rfl), by rw [xx_178]; exact h⟩
theorem ck_179 {t : Nat} {σ : Mm} {w : Option Value × Mm} {x1 : Int32} (hS : Sg t σ)  (h : Ev 179 0 [.ref 59, .int x1] [] σ w) : Cl 179 [.ref 59, .int x1] σ w :=
  ⟨okr_v (by decide +kernel) oo_179 (by decide) (by rw [xx_179]; exact Nat.le_of_ble_eq_true rfl) rfl (hS.k rfl), by rw [xx_179]; exact h⟩
theorem ck_180 {t : Nat} {σ : Mm} {w : Option Value × Mm} {x1 : Int32} {x2 : Int32} (hS : Sg t σ)  (h : Ev 180 0 [.ref 59, .int x1, .int x2] [] σ w) : Cl 180 [.ref 59, .int x1, .int x2] σ w :=
  ⟨okr_v (by decide +kernel) oo_180 (by decide) (by rw [xx_180]; exact Nat.le_of_ble_eq_true rfl) rfl (hS.k rfl), by rw [xx_180]; exact h⟩
theorem ck_181 {t : Nat} {σ : Mm} {w : Option Value × Mm} {x0 : Int32} (hS : Sg t σ)  (h : Ev 181 0 [.int x0] [] σ w) : Cl 181 [.int x0] σ w :=
  ⟨okr_s (by decide +kernel) (by rw [xx_181]; exact Nat.le_of_ble_eq_true rfl) rfl, by rw [xx_181]; exact h⟩
theorem ck_182 {t : Nat} {σ : Mm} {w : Option Value × Mm} {x1 : Int32} {x2 : Int32} {x3 : Int32} (hS : Sg t σ)  (h : Ev 182 0 [.ref 59, .int x1, .int x2, .int x3] [] σ w) : Cl 182 [.ref 59, .int x1, .int x2, .int x3] σ w :=
  ⟨okr_v (by decide +kernel) oo_182 (by decide) (by rw [xx_182]; exact Nat.le_of_ble_eq_true rfl) rfl (hS.k rfl), by rw [xx_182]; exact h⟩
theorem ck_183 {t : Nat} {σ : Mm} {w : Option Value × Mm}  (hS : Sg t σ)  (h : Ev 183 0 [.ref 59] [] σ w) : Cl 183 [.ref 59] σ w :=
  ⟨okr_v (by decide +kernel) oo_183 (by decide) (by rw [xx_183]; exact Nat.le_of_ble_eq_true rfl) rfl (hS.k rfl), by rw [xx_183]; exact h⟩
theorem ck_184 {t : Nat} {σ : Mm} {w : Option Value × Mm} {x1 : Int32} (hS : Sg t σ)  (h : Ev 184 0 [.ref 59, .int x1, .retAddr 0, .retAddr 0, .retAddr 0] [] σ w) : Cl 184 [.ref 59, .int x1] σ w :=
  ⟨okr_v (by decide +kernel) oo_184 (by decide) (by rw [xx_184]; exact Nat.le_of_ble_eq_true rfl) rfl (hS.k rfl), by rw [xx_184]; exact h⟩
theorem ck_185 {t : Nat} {σ : Mm} {w : Option Value × Mm}  (hS : Sg t σ)  (h : Ev 185 0 [.ref 59] [] σ w) : Cl 185 [.ref 59] σ w :=
  ⟨okr_v (by decide +kernel) oo_185 (by decide) (by rw [xx_185]; exact Nat.le_of_ble_eq_true rfl) rfl (hS.k rfl), by rw [xx_185]; exact h⟩
theorem ck_186 {t : Nat} {σ : Mm} {w : Option Value × Mm} {x1 : Int32} (hS : Sg t σ)  (h : Ev 186 0 [.ref 59, .int x1] [] σ w) : Cl 186 [.ref 59, .int x1] σ w :=
  ⟨okr_v (by decide +kernel) oo_186 (by decide) (by rw [xx_186]; exact Nat.le_of_ble_eq_true rfl) rfl (hS.k rfl), by rw [xx_186]; exact h⟩
theorem ck_187 {t : Nat} {σ : Mm} {w : Option Value × Mm}  (hS : Sg t σ)  (h : Ev 187 0 [.ref 59] [] σ w) : Cl 187 [.ref 59] σ w :=
  ⟨okr_v (by decide +kernel) oo_187 (by decide) (by rw [xx_187]; exact Nat.le_of_ble_eq_true rfl) rfl (hS.k rfl), by rw [xx_187]; exact h⟩
theorem ck_188 {t : Nat} {σ : Mm} {w : Option Value × Mm}  (hS : Sg t σ)  (h : Ev 188 0 [.ref 59, .retAddr 0] [] σ w) : Cl 188 [.ref 59] σ w :=
  ⟨okr_v (by decide +kernel) oo_188 (by decide) (by rw [xx_188]; exact Nat.le_of_ble_eq_true rfl) rfl (hS.k rfl), by rw [xx_188]; exact h⟩
theorem ck_189 {t : Nat} {σ : Mm} {w : Option Value × Mm}  (hS : Sg t σ)  (h : Ev 189 0 [.ref 59, .retAddr 0] [] σ w) : Cl 189 [.ref 59] σ w :=
  ⟨okr_v (by decide +kernel) oo_189 (by decide) (by rw [xx_189]; exact Nat.le_of_ble_eq_true rfl) rfl (hS.k rfl), by rw [xx_189]; exact h⟩
theorem ck_190 {t : Nat} {σ : Mm} {w : Option Value × Mm}  (hS : Sg t σ)  (h : Ev 190 0 [.ref 59] [] σ w) : Cl 190 [.ref 59] σ w :=
  ⟨okr_v (by decide +kernel) oo_190 (by decide) (by rw [xx_190]; exact Nat.le_of_ble_eq_true rfl) rfl (hS.k rfl), by rw [xx_190]; exact h⟩
theorem ck_191 {t : Nat} {σ : Mm} {w : Option Value × Mm} {y1 : Int64} (hS : Sg t σ)  (h : Ev 191 0 [.ref 59, .long y1, .float 0] [] σ w) : Cl 191 [.ref 59, .long y1] σ w :=
  ⟨okr_v (by decide +kernel) oo_191 (by decide) (by rw [xx_191]; exact Nat.le_of_ble_eq_true rfl) rfl (hS.k rfl), by rw [xx_191]; exact h⟩
theorem ck_192 {t : Nat} {σ : Mm} {w : Option Value × Mm} {x0 : Int32} {y1 : Int64} {y3 : Int64} (hS : Sg t σ)  (h : Ev 192 0 [.int x0, .long y1, .float 0, .long y3, .float 0] [] σ w) : Cl 192 [.int x0, .long y1, .long y3] σ w :=
  ⟨okr_s (by decide +kernel) (by rw [xx_192]; exact Nat.le_of_ble_eq_true rfl) rfl, by rw [xx_192]; exact h⟩
theorem ck_193 {t : Nat} {σ : Mm} {w : Option Value × Mm} {y1 : Int64} {y3 : Int64} (hS : Sg t σ)  (h : Ev 193 0 [.ref 59, .long y1, .float 0, .long y3, .float 0, .retAddr 0] [] σ w) : Cl 193 [.ref 59, .long y1, .long y3] σ w :=
  ⟨okr_v (by decide +kernel) oo_193 (by decide) (by rw [xx_193]; exact Nat.le_of_ble_eq_true rfl) rfl (hS.k rfl), by rw [xx_193]; exact h⟩
theorem ck_194 {t : Nat} {σ : Mm} {w : Option Value × Mm} {x1 : Int32} (hS : Sg t σ)  (h : Ev 194 0 [.ref 59, .int x1, .retAddr 0, .retAddr 0, .retAddr 0, .retAddr 0] [] σ w) : Cl 194 [.ref 59, .int x1] σ w :=
  ⟨okr_v (by decide +kernel) oo_194 (by decide) (by rw [xx_194]; exact Nat.le_of_ble_eq_true rfl) rfl (hS.k rfl), by rw [xx_194]; exact h⟩
theorem ck_195 {t : Nat} {σ : Mm} {w : Option Value × Mm}  (hS : Sg t σ)  (h : Ev 195 0 [.ref 59] [] σ w) : Cl 195 [.ref 59] σ w :=
  ⟨okr_v (by decide +kernel) oo_195 (by decide) (by rw [xx_195]; exact Nat.le_of_ble_eq_true rfl) rfl (hS.k rfl), by rw [xx_195]; exact h⟩
theorem ck_196 {t : Nat} {σ : Mm} {w : Option Value × Mm} {x1 : Int32} (hS : Sg t σ)  (h : Ev 196 0 [.ref 59, .int x1, .retAddr 0] [] σ w) : Cl 196 [.ref 59, .int x1] σ w :=
  ⟨okr_v (by decide +kernel) oo_196 (by decide) (by rw [xx_196]; exact Nat.le_of_ble_eq_true rfl) rfl (hS.k rfl), by rw [xx_196]; exact h⟩
theorem ck_197 {t : Nat} {σ : Mm} {w : Option Value × Mm}  (hS : Sg t σ)  (h : Ev 197 0 [.ref 59] [] σ w) : Cl 197 [.ref 59] σ w :=
  ⟨okr_v (by decide +kernel) oo_197 (by decide) (by rw [xx_197]; exact Nat.le_of_ble_eq_true rfl) rfl (hS.k rfl), by rw [xx_197]; exact h⟩
theorem ck_198 {t : Nat} {σ : Mm} {w : Option Value × Mm}  (hS : Sg t σ)  (h : Ev 198 0 [.ref 59, .retAddr 0] [] σ w) : Cl 198 [.ref 59] σ w :=
  ⟨okr_v (by decide +kernel) oo_198 (by decide) (by rw [xx_198]; exact Nat.le_of_ble_eq_true rfl) rfl (hS.k rfl), by rw [xx_198]; exact h⟩
theorem ck_199 {t : Nat} {σ : Mm} {w : Option Value × Mm} {x1 : Int32} (hS : Sg t σ)  (h : Ev 199 0 [.ref 59, .int x1] [] σ w) : Cl 199 [.ref 59, .int x1] σ w :=
  ⟨okr_v (by decide +kernel) oo_199 (by decide) (by rw [xx_199]; exact Nat.le_of_ble_eq_true rfl) rfl (hS.k rfl), by rw [xx_199]; exact h⟩
theorem ck_200 {t : Nat} {σ : Mm} {w : Option Value × Mm} {x1 : Int32} (hS : Sg t σ)  (h : Ev 200 0 [.ref 59, .int x1] [] σ w) : Cl 200 [.ref 59, .int x1] σ w :=
  ⟨okr_v (by decide +kernel) oo_200 (by decide) (by rw [xx_200]; exact Nat.le_of_ble_eq_true rfl) rfl (hS.k rfl), by rw [xx_200]; exact h⟩
theorem ck_201 {t : Nat} {σ : Mm} {w : Option Value × Mm} {x1 : Int32} (hS : Sg t σ)  (h : Ev 201 0 [.ref 59, .int x1] [] σ w) : Cl 201 [.ref 59, .int x1] σ w :=
  ⟨okr_v (by decide +kernel) oo_201 (by decide) (by rw [xx_201]; exact Nat.le_of_ble_eq_true rfl) rfl (hS.k rfl), by rw [xx_201]; exact h⟩
theorem ck_202 {t : Nat} {σ : Mm} {w : Option Value × Mm} {x0 : Int32} (hS : Sg t σ)  (h : Ev 202 0 [.int x0, .retAddr 0, .retAddr 0] [] σ w) : Cl 202 [.int x0] σ w :=
  ⟨okr_s (by decide +kernel) (by rw [xx_202]; exact Nat.le_of_ble_eq_true rfl) rfl, by rw [xx_202]; exact h⟩
theorem ck_203 {t : Nat} {σ : Mm} {w : Option Value × Mm} {x1 : Int32} (hS : Sg t σ)  (h : Ev 203 0 [.ref 59, .int x1] [] σ w) : Cl 203 [.ref 59, .int x1] σ w :=
  ⟨okr_v (by decide +kernel) oo_203 (by decide) (by rw [xx_203]; exact Nat.le_of_ble_eq_true rfl) rfl (hS.k rfl), by rw [xx_203]; exact h⟩
theorem ck_204 {t : Nat} {σ : Mm} {w : Option Value × Mm} {x1 : Int32} {x2 : Int32} {x3 : Int32} (hS : Sg t σ)  (h : Ev 204 0 [.ref 59, .int x1, .int x2, .int x3, .retAddr 0, .retAddr 0] [] σ w) : Cl 204 [.ref 59, .int x1, .int x2, .int x3] σ w :=
  ⟨okr_v (by decide +kernel) oo_204 (by decide) (by rw [xx_204]; exact Nat.le_of_ble_eq_true rfl) rfl (hS.k rfl), by rw [xx_204]; exact h⟩
theorem ck_205 {t : Nat} {σ : Mm} {w : Option Value × Mm} {x1 : Int32} (hS : Sg t σ)  (h : Ev 205 0 [.ref 59, .int x1] [] σ w) : Cl 205 [.ref 59, .int x1] σ w :=
  ⟨okr_v (by decide +kernel) oo_205 (by decide) (by rw [xx_205]; exact Nat.le_of_ble_eq_true rfl) rfl (hS.k rfl), by rw [xx_205]; exact h⟩
theorem ck_206 {t : Nat} {σ : Mm} {w : Option Value × Mm} {x1 : Int32} {x2 : Int32} (hS : Sg t σ)  (h : Ev 206 0 [.ref 59, .int x1, .int x2] [] σ w) : Cl 206 [.ref 59, .int x1, .int x2] σ w :=
  ⟨okr_v (by decide +kernel) oo_206 (by decide) (by rw [xx_206]; exact Nat.le_of_ble_eq_true rfl) rfl (hS.k rfl), by rw [xx_206]; exact h⟩
theorem ck_207 {t : Nat} {σ : Mm} {w : Option Value × Mm} {x1 : Int32} {x2 : Int32} (hS : Sg t σ)  (h : Ev 207 0 [.ref 59, .int x1, .int x2] [] σ w) : Cl 207 [.ref 59, .int x1, .int x2] σ w :=
  ⟨okr_v (by decide +kernel) oo_207 (by decide) (by rw [xx_207]; exact Nat.le_of_ble_eq_true rfl) rfl (hS.k rfl), by rw [xx_207]; exact h⟩
theorem ck_208 {t : Nat} {σ : Mm} {w : Option Value × Mm} {x1 : Int32} (hS : Sg t σ)  (h : Ev 208 0 [.ref 59, .int x1, .retAddr 0] [] σ w) : Cl 208 [.ref 59, .int x1] σ w :=
  ⟨okr_v (by decide +kernel) oo_208 (by decide) (by rw [xx_208]; exact Nat.le_of_ble_eq_true rfl) rfl (hS.k rfl), by rw [xx_208]; exact h⟩
theorem ck_209 {t : Nat} {σ : Mm} {w : Option Value × Mm} {x1 : Int32} {x2 : Int32} {x3 : Int32} (hS : Sg t σ)  (h : Ev 209 0 [.ref 59, .int x1, .int x2, .int x3, .retAddr 0, .retAddr 0] [] σ w) : Cl 209 [.ref 59, .int x1, .int x2, .int x3] σ w :=
  ⟨okr_v (by decide +kernel) oo_209 (by decide) (by rw [xx_209]; exact Nat.le_of_ble_eq_true rfl) rfl (hS.k rfl), by rw [xx_209]; exact h⟩
theorem ck_210 {t : Nat} {σ : Mm} {w : Option Value × Mm} {x1 : Int32} {x2 : Int32} (hS : Sg t σ)  (h : Ev 210 0 [.ref 59, .int x1, .int x2, .retAddr 0, .retAddr 0] [] σ w) : Cl 210 [.ref 59, .int x1, .int x2] σ w :=
  ⟨okr_v (by decide +kernel) oo_210 (by decide) (by rw [xx_210]; exact Nat.le_of_ble_eq_true rfl) rfl (hS.k rfl), by rw [xx_210]; exact h⟩
theorem ck_211 {t : Nat} {σ : Mm} {w : Option Value × Mm} {x1 : Int32} (hS : Sg t σ)  (h : Ev 211 0 [.ref 59, .int x1] [] σ w) : Cl 211 [.ref 59, .int x1] σ w :=
  ⟨okr_v (by decide +kernel) oo_211 (by decide) (by rw [xx_211]; exact Nat.le_of_ble_eq_true rfl) rfl (hS.k rfl), by rw [xx_211]; exact h⟩
theorem ck_212 {t : Nat} {σ : Mm} {w : Option Value × Mm} {x1 : Int32} {x2 : Int32} (hS : Sg t σ)  (h : Ev 212 0 [.ref 59, .int x1, .int x2, .retAddr 0] [] σ w) : Cl 212 [.ref 59, .int x1, .int x2] σ w :=
  ⟨okr_v (by decide +kernel) oo_212 (by decide) (by rw [xx_212]; exact Nat.le_of_ble_eq_true rfl) rfl (hS.k rfl), by rw [xx_212]; exact h⟩
theorem ck_213 {t : Nat} {σ : Mm} {w : Option Value × Mm} {x1 : Int32} (hS : Sg t σ)  (h : Ev 213 0 [.ref 59, .int x1, .retAddr 0, .retAddr 0] [] σ w) : Cl 213 [.ref 59, .int x1] σ w :=
  ⟨okr_v (by decide +kernel) oo_213 (by decide) (by rw [xx_213]; exact Nat.le_of_ble_eq_true rfl) rfl (hS.k rfl), by rw [xx_213]; exact h⟩
theorem ck_214 {t : Nat} {σ : Mm} {w : Option Value × Mm} {x1 : Int32} (hS : Sg t σ)  (h : Ev 214 0 [.ref 59, .int x1, .retAddr 0] [] σ w) : Cl 214 [.ref 59, .int x1] σ w :=
  ⟨okr_v (by decide +kernel) oo_214 (by decide) (by rw [xx_214]; exact Nat.le_of_ble_eq_true rfl) rfl (hS.k rfl), by rw [xx_214]; exact h⟩
theorem ck_215 {t : Nat} {σ : Mm} {w : Option Value × Mm} {x1 : Int32} (hS : Sg t σ)  (h : Ev 215 0 [.ref 59, .int x1] [] σ w) : Cl 215 [.ref 59, .int x1] σ w :=
  ⟨okr_v (by decide +kernel) oo_215 (by decide) (by rw [xx_215]; exact Nat.le_of_ble_eq_true rfl) rfl (hS.k rfl), by rw [xx_215]; exact h⟩
theorem ck_216 {t : Nat} {σ : Mm} {w : Option Value × Mm} {x1 : Int32} {x2 : Int32} (hS : Sg t σ)  (h : Ev 216 0 [.ref 59, .int x1, .int x2] [] σ w) : Cl 216 [.ref 59, .int x1, .int x2] σ w :=
  ⟨okr_v (by decide +kernel) oo_216 (by decide) (by rw [xx_216]; exact Nat.le_of_ble_eq_true rfl) rfl (hS.k rfl), by rw [xx_216]; exact h⟩
theorem ck_217 {t : Nat} {σ : Mm} {w : Option Value × Mm} {x1 : Int32} {x2 : Int32} (hS : Sg t σ)  (h : Ev 217 0 [.ref 59, .int x1, .int x2] [] σ w) : Cl 217 [.ref 59, .int x1, .int x2] σ w :=
  ⟨okr_v (by decide +kernel) oo_217 (by decide) (by rw [xx_217]; exact Nat.le_of_ble_eq_true rfl) rfl (hS.k rfl), by rw [xx_217]; exact h⟩
theorem ck_218 {t : Nat} {σ : Mm} {w : Option Value × Mm} {x1 : Int32} (hS : Sg t σ)  (h : Ev 218 0 [.ref 59, .int x1] [] σ w) : Cl 218 [.ref 59, .int x1] σ w :=
  ⟨okr_v (by decide +kernel) oo_218 (by decide) (by rw [xx_218]; exact Nat.le_of_ble_eq_true rfl) rfl (hS.k rfl), by rw [xx_218]; exact h⟩
theorem ck_219 {t : Nat} {σ : Mm} {w : Option Value × Mm} {x1 : Int32} {x2 : Int32} (hS : Sg t σ)  (h : Ev 219 0 [.ref 59, .int x1, .int x2, .retAddr 0, .retAddr 0] [] σ w) : Cl 219 [.ref 59, .int x1, .int x2] σ w :=
  ⟨okr_v (by decide +kernel) oo_219 (by decide) (by rw [xx_219]; exact Nat.le_of_ble_eq_true rfl) rfl (hS.k rfl), by rw [xx_219]; exact h⟩
theorem ck_220 {t : Nat} {σ : Mm} {w : Option Value × Mm} {x1 : Int32} (hS : Sg t σ)  (h : Ev 220 0 [.ref 59, .int x1] [] σ w) : Cl 220 [.ref 59, .int x1] σ w :=
  ⟨okr_v (by decide +kernel) oo_220 (by decide) (by rw [xx_220]; exact Nat.le_of_ble_eq_true rfl) rfl (hS.k rfl), by rw [xx_220]; exact h⟩
theorem ck_221 {t : Nat} {σ : Mm} {w : Option Value × Mm} {x1 : Int32} {x2 : Int32} (hS : Sg t σ)  (h : Ev 221 0 [.ref 59, .int x1, .int x2] [] σ w) : Cl 221 [.ref 59, .int x1, .int x2] σ w :=
  ⟨okr_v (by decide +kernel) oo_221 (by decide) (by rw [xx_221]; exact Nat.le_of_ble_eq_true rfl) rfl (hS.k rfl), by rw [xx_221]; exact h⟩
theorem ck_222 {t : Nat} {σ : Mm} {w : Option Value × Mm}  (hS : Sg t σ)  (h : Ev 222 0 [.ref 59] [] σ w) : Cl 222 [.ref 59] σ w :=
  ⟨okr_v (by decide +kernel) oo_222 (by decide) (by rw [xx_222]; exact Nat.le_of_ble_eq_true rfl) rfl (hS.k rfl), by rw [xx_222]; exact h⟩
theorem ck_223 {t : Nat} {σ : Mm} {w : Option Value × Mm} {x1 : Int32} (hS : Sg t σ)  (h : Ev 223 0 [.ref 59, .int x1, .retAddr 0] [] σ w) : Cl 223 [.ref 59, .int x1] σ w :=
  ⟨okr_v (by decide +kernel) oo_223 (by decide) (by rw [xx_223]; exact Nat.le_of_ble_eq_true rfl) rfl (hS.k rfl), by rw [xx_223]; exact h⟩
theorem ck_224 {t : Nat} {σ : Mm} {w : Option Value × Mm} {x1 : Int32} {x2 : Int32} (hS : Sg t σ)  (h : Ev 224 0 [.ref 59, .int x1, .int x2] [] σ w) : Cl 224 [.ref 59, .int x1, .int x2] σ w :=
  ⟨okr_v (by decide +kernel) oo_224 (by decide) (by rw [xx_224]; exact Nat.le_of_ble_eq_true rfl) rfl (hS.k rfl), by rw [xx_224]; exact h⟩
theorem ck_225 {t : Nat} {σ : Mm} {w : Option Value × Mm} {x1 : Int32} (hS : Sg t σ)  (h : Ev 225 0 [.ref 59, .int x1, .retAddr 0] [] σ w) : Cl 225 [.ref 59, .int x1] σ w :=
  ⟨okr_v (by decide +kernel) oo_225 (by decide) (by rw [xx_225]; exact Nat.le_of_ble_eq_true rfl) rfl (hS.k rfl), by rw [xx_225]; exact h⟩
theorem ck_226 {t : Nat} {σ : Mm} {w : Option Value × Mm}  (hS : Sg t σ)  (h : Ev 226 0 [.ref 59, .retAddr 0, .retAddr 0] [] σ w) : Cl 226 [.ref 59] σ w :=
  ⟨okr_v (by decide +kernel) oo_226 (by decide) (by rw [xx_226]; exact Nat.le_of_ble_eq_true rfl) rfl (hS.k rfl), by rw [xx_226]; exact h⟩
theorem ck_227 {t : Nat} {σ : Mm} {w : Option Value × Mm} {x1 : Int32} {x2 : Int32} (hS : Sg t σ)  (h : Ev 227 0 [.ref 59, .int x1, .int x2] [] σ w) : Cl 227 [.ref 59, .int x1, .int x2] σ w :=
  ⟨okr_v (by decide +kernel) oo_227 (by decide) (by rw [xx_227]; exact Nat.le_of_ble_eq_true rfl) rfl (hS.k rfl), by rw [xx_227]; exact h⟩
theorem ck_228 {t : Nat} {σ : Mm} {w : Option Value × Mm} {x1 : Int32} (hS : Sg t σ)  (h : Ev 228 0 [.ref 59, .int x1, .retAddr 0, .retAddr 0] [] σ w) : Cl 228 [.ref 59, .int x1] σ w :=
  ⟨okr_v (by decide +kernel) oo_228 (by decide) (by rw [xx_228]; exact Nat.le_of_ble_eq_true rfl) rfl (hS.k rfl), by rw [xx_228]; exact h⟩
theorem ck_229 {t : Nat} {σ : Mm} {w : Option Value × Mm} {x1 : Int32} (hS : Sg t σ)  (h : Ev 229 0 [.ref 59, .int x1, .retAddr 0, .retAddr 0] [] σ w) : Cl 229 [.ref 59, .int x1] σ w :=
  ⟨okr_v (by decide +kernel) oo_229 (by decide) (by rw [xx_229]; exact Nat.le_of_ble_eq_true rfl) rfl (hS.k rfl), by rw [xx_229]; exact h⟩
theorem ck_230 {t : Nat} {σ : Mm} {w : Option Value × Mm} {x1 : Int32} (hS : Sg t σ)  (h : Ev 230 0 [.ref 59, .int x1, .retAddr 0, .retAddr 0] [] σ w) : Cl 230 [.ref 59, .int x1] σ w :=
  ⟨okr_v (by decide +kernel) oo_230 (by decide) (by rw [xx_230]; exact Nat.le_of_ble_eq_true rfl) rfl (hS.k rfl), by rw [xx_230]; exact h⟩
theorem ck_231 {t : Nat} {σ : Mm} {w : Option Value × Mm} {x1 : Int32} (hS : Sg t σ)  (h : Ev 231 0 [.ref 59, .int x1] [] σ w) : Cl 231 [.ref 59, .int x1] σ w :=
  ⟨okr_v (by decide +kernel) oo_231 (by decide) (by rw [xx_231]; exact Nat.le_of_ble_eq_true rfl) rfl (hS.k rfl), by rw [xx_231]; exact h⟩
theorem ck_232 {t : Nat} {σ : Mm} {w : Option Value × Mm} {x1 : Int32} {x2 : Int32} (hS : Sg t σ)  (h : Ev 232 0 [.ref 59, .int x1, .int x2, .retAddr 0, .retAddr 0] [] σ w) : Cl 232 [.ref 59, .int x1, .int x2] σ w :=
  ⟨okr_v (by decide +kernel) oo_232 (by decide) (by rw [xx_232]; exact Nat.le_of_ble_eq_true rfl) rfl (hS.k rfl), by rw [xx_232]; exact h⟩
theorem ck_233 {t : Nat} {σ : Mm} {w : Option Value × Mm} {x1 : Int32} {x2 : Int32} (hS : Sg t σ)  (h : Ev 233 0 [.ref 59, .int x1, .int x2, .retAddr 0, .retAddr 0, .retAddr 0, .retAddr 0] [] σ w) : Cl 233 [.ref 59, .int x1, .int x2] σ w :=
  ⟨okr_v (by decide +kernel) oo_233 (by decide) (by rw [xx_233]; exact Nat.le_of_ble_eq_true rfl) rfl (hS.k rfl), by rw [xx_233]; exact h⟩
theorem ck_234 {t : Nat} {σ : Mm} {w : Option Value × Mm}  (hS : Sg t σ)  (h : Ev 234 0 [.ref 59, .retAddr 0, .retAddr 0] [] σ w) : Cl 234 [.ref 59] σ w :=
  ⟨okr_v (by decide +kernel) oo_234 (by decide) (by rw [xx_234]; exact Nat.le_of_ble_eq_true rfl) rfl (hS.k rfl), by rw [xx_234]; exact h⟩
theorem ck_235 {t : Nat} {σ : Mm} {w : Option Value × Mm}  (hS : Sg t σ)  (h : Ev 235 0 [.ref 59, .retAddr 0, .retAddr 0] [] σ w) : Cl 235 [.ref 59] σ w :=
  ⟨okr_v (by decide +kernel) oo_235 (by decide) (by rw [xx_235]; exact Nat.le_of_ble_eq_true rfl) rfl (hS.k rfl), by rw [xx_235]; exact h⟩
theorem ck_236 {t : Nat} {σ : Mm} {w : Option Value × Mm}  (hS : Sg t σ)  (h : Ev 236 0 [.ref 59] [] σ w) : Cl 236 [.ref 59] σ w :=
  ⟨okr_v (by decide +kernel) oo_236 (by decide) (by rw [xx_236]; exact Nat.le_of_ble_eq_true rfl) rfl (hS.k rfl), by rw [xx_236]; exact h⟩
theorem ck_237 {t : Nat} {σ : Mm} {w : Option Value × Mm} {x1 : Int32} {x2 : Int32} (hS : Sg t σ)  (h : Ev 237 0 [.ref 59, .int x1, .int x2, .retAddr 0] [] σ w) : Cl 237 [.ref 59, .int x1, .int x2] σ w :=
  ⟨okr_v (by decide +kernel) oo_237 (by decide) (by rw [xx_237]; exact Nat.le_of_ble_eq_true rfl) rfl (hS.k rfl), by rw [xx_237]; exact h⟩
theorem ck_238 {t : Nat} {σ : Mm} {w : Option Value × Mm}  (hS : Sg t σ)  (h : Ev 238 0 [.ref 59, .retAddr 0, .retAddr 0] [] σ w) : Cl 238 [.ref 59] σ w :=
  ⟨okr_v (by decide +kernel) oo_238 (by decide) (by rw [xx_238]; exact Nat.le_of_ble_eq_true rfl) rfl (hS.k rfl), by rw [xx_238]; exact h⟩
theorem ck_239 {t : Nat} {σ : Mm} {w : Option Value × Mm}  (hS : Sg t σ)  (h : Ev 239 0 [.ref 59] [] σ w) : Cl 239 [.ref 59] σ w :=
  ⟨okr_v (by decide +kernel) oo_239 (by decide) (by rw [xx_239]; exact Nat.le_of_ble_eq_true rfl) rfl (hS.k rfl), by rw [xx_239]; exact h⟩
theorem ck_240 {t : Nat} {σ : Mm} {w : Option Value × Mm} {x1 : Int32} (hS : Sg t σ)  (h : Ev 240 0 [.ref 59, .int x1, .retAddr 0, .retAddr 0] [] σ w) : Cl 240 [.ref 59, .int x1] σ w :=
  ⟨okr_v (by decide +kernel) oo_240 (by decide) (by rw [xx_240]; exact Nat.le_of_ble_eq_true rfl) rfl (hS.k rfl), by rw [xx_240]; exact h⟩
theorem ck_241 {t : Nat} {σ : Mm} {w : Option Value × Mm} {x1 : Int32} (hS : Sg t σ)  (h : Ev 241 0 [.ref 59, .int x1, .retAddr 0, .retAddr 0] [] σ w) : Cl 241 [.ref 59, .int x1] σ w :=
  ⟨okr_v (by decide +kernel) oo_241 (by decide) (by rw [xx_241]; exact Nat.le_of_ble_eq_true rfl) rfl (hS.k rfl), by rw [xx_241]; exact h⟩
theorem ck_242 {t : Nat} {σ : Mm} {w : Option Value × Mm} {x1 : Int32} (hS : Sg t σ)  (h : Ev 242 0 [.ref 59, .int x1, .retAddr 0, .retAddr 0, .retAddr 0] [] σ w) : Cl 242 [.ref 59, .int x1] σ w :=
  ⟨okr_v (by decide +kernel) oo_242 (by decide) (by rw [xx_242]; exact Nat.le_of_ble_eq_true rfl) rfl (hS.k rfl), by rw [xx_242]; exact h⟩
theorem ck_243 {t : Nat} {σ : Mm} {w : Option Value × Mm} {x1 : Int32} (hS : Sg t σ)  (h : Ev 243 0 [.ref 59, .int x1, .retAddr 0, .retAddr 0] [] σ w) : Cl 243 [.ref 59, .int x1] σ w :=
  ⟨okr_v (by decide +kernel) oo_243 (by decide) (by rw [xx_243]; exact Nat.le_of_ble_eq_true rfl) rfl (hS.k rfl), by rw [xx_243]; exact h⟩
theorem ck_244 {t : Nat} {σ : Mm} {w : Option Value × Mm}  (hS : Sg t σ)  (h : Ev 244 0 [.ref 59, .retAddr 0, .retAddr 0] [] σ w) : Cl 244 [.ref 59] σ w :=
  ⟨okr_v (by decide +kernel) oo_244 (by decide) (by rw [xx_244]; exact Nat.le_of_ble_eq_true rfl) rfl (hS.k rfl), by rw [xx_244]; exact h⟩
theorem ck_245 {t : Nat} {σ : Mm} {w : Option Value × Mm}  (hS : Sg t σ)  (h : Ev 245 0 [.ref 59, .retAddr 0, .retAddr 0, .retAddr 0, .retAddr 0] [] σ w) : Cl 245 [.ref 59] σ w :=
  ⟨okr_v (by decide +kernel) oo_245 (by decide) (by rw [xx_245]; exact Nat.le_of_ble_eq_true rfl) rfl (hS.k rfl), by rw [xx_245]; exact h⟩
theorem ck_246 {t : Nat} {σ : Mm} {w : Option Value × Mm} {x1 : Int32} (hS : Sg t σ)  (h : Ev 246 0 [.ref 59, .int x1, .retAddr 0, .retAddr 0, .retAddr 0, .retAddr 0] [] σ w) : Cl 246 [.ref 59, .int x1] σ w :=
  ⟨okr_v (by decide +kernel) oo_246 (by decide) (by rw [xx_246]; exact Nat.le_of_ble_eq_true rfl) rfl (hS.k rfl), by rw [xx_246]; exact h⟩
theorem ck_247 {t : Nat} {σ : Mm} {w : Option Value × Mm} {x1 : Int32} {x2 : Int32} (hS : Sg t σ)  (h : Ev 247 0 [.ref 59, .int x1, .int x2, .retAddr 0] [] σ w) : Cl 247 [.ref 59, .int x1, .int x2] σ w :=
  ⟨okr_v (by decide +kernel) oo_247 (by decide) (by rw [xx_247]; exact Nat.le_of_ble_eq_true rfl) rfl (hS.k rfl), by rw [xx_247]; exact h⟩
theorem ck_248 {t : Nat} {σ : Mm} {w : Option Value × Mm} {x1 : Int32} (hS : Sg t σ)  (h : Ev 248 0 [.ref 59, .int x1, .retAddr 0, .retAddr 0] [] σ w) : Cl 248 [.ref 59, .int x1] σ w :=
  ⟨okr_v (by decide +kernel) oo_248 (by decide) (by rw [xx_248]; exact Nat.le_of_ble_eq_true rfl) rfl (hS.k rfl), by rw [xx_248]; exact h⟩
theorem ck_249 {t : Nat} {σ : Mm} {w : Option Value × Mm} {x1 : Int32} {x2 : Int32} (hS : Sg t σ)  (h : Ev 249 0 [.ref 59, .int x1, .int x2] [] σ w) : Cl 249 [.ref 59, .int x1, .int x2] σ w :=
  ⟨okr_v (by decide +kernel) oo_249 (by decide) (by rw [xx_249]; exact Nat.le_of_ble_eq_true rfl) rfl (hS.k rfl), by rw [xx_249]; exact h⟩
theorem ck_250 {t : Nat} {σ : Mm} {w : Option Value × Mm}  (hS : Sg t σ)  (h : Ev 250 0 [.ref 59, .retAddr 0, .retAddr 0, .retAddr 0, .retAddr 0] [] σ w) : Cl 250 [.ref 59] σ w :=
  ⟨okr_v (by decide +kernel) oo_250 (by decide) (by rw [xx_250]; exact Nat.le_of_ble_eq_true rfl) rfl (hS.k rfl), by rw [xx_250]; exact h⟩
theorem ck_251 {t : Nat} {σ : Mm} {w : Option Value × Mm} {x1 : Int32} (hS : Sg t σ)  (h : Ev 251 0 [.ref 59, .int x1, .retAddr 0] [] σ w) : Cl 251 [.ref 59, .int x1] σ w :=
  ⟨okr_v (by decide +kernel) oo_251 (by decide) (by rw [xx_251]; exact Nat.le_of_ble_eq_true rfl) rfl (hS.k rfl), by rw [xx_251]; exact h⟩
theorem ck_252 {t : Nat} {σ : Mm} {w : Option Value × Mm} {x1 : Int32} {x2 : Int32} (hS : Sg t σ)  (h : Ev 252 0 [.ref 59, .int x1, .int x2, .retAddr 0, .retAddr 0, .retAddr 0, .retAddr 0, .retAddr 0, .retAddr 0, .retAddr 0, .retAddr 0, .retAddr 0, .retAddr 0] [] σ w) : Cl 252 [.ref 59, .int x1, .int x2] σ w :=
  ⟨okr_v (by decide +kernel) oo_252 (by decide) (by rw [xx_252]; exact Nat.le_of_ble_eq_true rfl) rfl (hS.k rfl), by rw [xx_252]; exact h⟩
theorem ck_253 {t : Nat} {σ : Mm} {w : Option Value × Mm} {x1 : Int32} {x2 : Int32} {x3 : Int32} (hS : Sg t σ)  (h : Ev 253 0 [.ref 59, .int x1, .int x2, .int x3, .retAddr 0] [] σ w) : Cl 253 [.ref 59, .int x1, .int x2, .int x3] σ w :=
  ⟨okr_v (by decide +kernel) oo_253 (by decide) (by rw [xx_253]; exact Nat.le_of_ble_eq_true rfl) rfl (hS.k rfl), by rw [xx_253]; exact h⟩
theorem ck_254 {t : Nat} {σ : Mm} {w : Option Value × Mm} {x1 : Int32} {x2 : Int32} {x3 : Int32} (hS : Sg t σ)  (h : Ev 254 0 [.ref 59, .int x1, .int x2, .int x3] [] σ w) : Cl 254 [.ref 59, .int x1, .int x2, .int x3] σ w :=
  ⟨okr_v (by decide +kernel) oo_254 (by decide) (by rw [xx_254]; exact Nat.le_of_ble_eq_true rfl) rfl (hS.k rfl), by rw [xx_254]; exact h⟩
theorem ck_255 {t : Nat} {σ : Mm} {w : Option Value × Mm} {x1 : Int32} (hS : Sg t σ)  (h : Ev 255 0 [.ref 59, .int x1] [] σ w) : Cl 255 [.ref 59, .int x1] σ w :=
  ⟨okr_v (by decide +kernel) oo_255 (by decide) (by rw [xx_255]; exact Nat.le_of_ble_eq_true rfl) rfl (hS.k rfl), by rw [xx_255]; exact h⟩
theorem ck_256 {t : Nat} {σ : Mm} {w : Option Value × Mm} {x1 : Int32} (hS : Sg t σ)  (h : Ev 256 0 [.ref 59, .int x1] [] σ w) : Cl 256 [.ref 59, .int x1] σ w :=
  ⟨okr_v (by decide +kernel) oo_256 (by decide) (by rw [xx_256]; exact Nat.le_of_ble_eq_true rfl) rfl (hS.k rfl), by rw [xx_256]; exact h⟩
theorem ck_257 {t : Nat} {σ : Mm} {w : Option Value × Mm}  (hS : Sg t σ)  (h : Ev 257 0 [.ref 59] [] σ w) : Cl 257 [.ref 59] σ w :=
  ⟨okr_v (by decide +kernel) oo_257 (by decide) (by rw [xx_257]; exact Nat.le_of_ble_eq_true rfl) rfl (hS.k rfl), by rw [xx_257]; exact h⟩
theorem ck_258 {t : Nat} {σ : Mm} {w : Option Value × Mm}  (hS : Sg t σ)  (h : Ev 258 0 [.ref 59, .retAddr 0] [] σ w) : Cl 258 [.ref 59] σ w :=
  ⟨okr_v (by decide +kernel) oo_258 (by decide) (by rw [xx_258]; exact Nat.le_of_ble_eq_true rfl) rfl (hS.k rfl), by rw [xx_258]; exact h⟩
theorem ck_259 {t : Nat} {σ : Mm} {w : Option Value × Mm} {x1 : Int32} (hS : Sg t σ)  (h : Ev 259 0 [.ref 59, .int x1, .retAddr 0, .retAddr 0] [] σ w) : Cl 259 [.ref 59, .int x1] σ w :=
  ⟨okr_v (by decide +kernel) oo_259 (by decide) (by rw [xx_259]; exact Nat.le_of_ble_eq_true rfl) rfl (hS.k rfl), by rw [xx_259]; exact h⟩
theorem ck_260 {t : Nat} {σ : Mm} {w : Option Value × Mm} {x1 : Int32} (hS : Sg t σ)  (h : Ev 260 0 [.ref 59, .int x1, .retAddr 0, .retAddr 0, .retAddr 0] [] σ w) : Cl 260 [.ref 59, .int x1] σ w :=
  ⟨okr_v (by decide +kernel) oo_260 (by decide) (by rw [xx_260]; exact Nat.le_of_ble_eq_true rfl) rfl (hS.k rfl), by rw [xx_260]; exact h⟩
theorem ck_261 {t : Nat} {σ : Mm} {w : Option Value × Mm}  (hS : Sg t σ)  (h : Ev 261 0 [.ref 59, .retAddr 0, .retAddr 0] [] σ w) : Cl 261 [.ref 59] σ w :=
  ⟨okr_v (by decide +kernel) oo_261 (by decide) (by rw [xx_261]; exact Nat.le_of_ble_eq_true rfl) rfl (hS.k rfl), by rw [xx_261]; exact h⟩
theorem ck_262 {t : Nat} {σ : Mm} {w : Option Value × Mm} {x1 : Int32} (hS : Sg t σ)  (h : Ev 262 0 [.ref 59, .int x1, .retAddr 0, .retAddr 0, .retAddr 0] [] σ w) : Cl 262 [.ref 59, .int x1] σ w :=
  ⟨okr_v (by decide +kernel) oo_262 (by decide) (by rw [xx_262]; exact Nat.le_of_ble_eq_true rfl) rfl (hS.k rfl), by rw [xx_262]; exact h⟩
theorem ck_263 {t : Nat} {σ : Mm} {w : Option Value × Mm}  (hS : Sg t σ)  (h : Ev 263 0 [.ref 59, .retAddr 0, .retAddr 0, .retAddr 0] [] σ w) : Cl 263 [.ref 59] σ w :=
  ⟨okr_v (by decide +kernel) oo_263 (by decide) (by rw [xx_263]; exact Nat.le_of_ble_eq_true rfl) rfl (hS.k rfl), by rw [xx_263]; exact h⟩
theorem ck_264 {t : Nat} {σ : Mm} {w : Option Value × Mm} {x1 : Int32} {x2 : Int32} {x3 : Int32} (hS : Sg t σ)  (h : Ev 264 0 [.ref 59, .int x1, .int x2, .int x3, .retAddr 0, .retAddr 0, .retAddr 0, .retAddr 0] [] σ w) : Cl 264 [.ref 59, .int x1, .int x2, .int x3] σ w :=
  ⟨okr_v (by decide +kernel) oo_264 (by decide) (by rw [xx_264]; exact Nat.le_of_ble_eq_true rfl) rfl (hS.k rfl), by rw [xx_264]; exact h⟩
theorem ck_265 {t : Nat} {σ : Mm} {w : Option Value × Mm} {x1 : Int32} {x2 : Int32} {x3 : Int32} (hS : Sg t σ)  (h : Ev 265 0 [.ref 59, .int x1, .int x2, .int x3] [] σ w) : Cl 265 [.ref 59, .int x1, .int x2, .int x3] σ w :=
  ⟨okr_v (by decide +kernel) oo_265 (by decide) (by rw [xx_265]; exact Nat.le_of_ble_eq_true rfl) rfl (hS.k rfl), by rw [xx_265]; exact h⟩
theorem ck_266 {t : Nat} {σ : Mm} {w : Option Value × Mm} {a1 n1 : Nat} {x2 : Int32} (hS : Sg t σ) (h1 : KS[a1]? = some (11, n1)) (h : Ev 266 0 [.ref 59, .ref a1, .int x2, .retAddr 0] [] σ w) : Cl 266 [.ref 59, .ref a1, .int x2] σ w :=
  ⟨okr_v (by decide +kernel) oo_266 (by decide) (by rw [xx_266]; exact Nat.le_of_ble_eq_true rfl) rfl (hS.k rfl), by rw [xx_266]; exact h⟩
theorem ck_267 {t : Nat} {σ : Mm} {w : Option Value × Mm} {a1 n1 : Nat} {x2 : Int32} (hS : Sg t σ) (h1 : KS[a1]? = some (11, n1)) (h : Ev 267 0 [.ref 59, .ref a1, .int x2, .retAddr 0] [] σ w) : Cl 267 [.ref 59, .ref a1, .int x2] σ w :=
  ⟨okr_v (by decide +kernel) oo_267 (by decide) (by rw [xx_267]; exact Nat.le_of_ble_eq_true rfl) rfl (hS.k rfl), by rw [xx_267]; exact h⟩
theorem ck_268 {t : Nat} {σ : Mm} {w : Option Value × Mm}  (hS : Sg t σ)  (h : Ev 268 0 [.ref 59, .retAddr 0] [] σ w) : Cl 268 [.ref 59] σ w :=
  ⟨okr_v (by decide +kernel) oo_268 (by decide) (by rw [xx_268]; exact Nat.le_of_ble_eq_true rfl) rfl (hS.k rfl), by rw [xx_268]; exact h⟩
theorem ck_269 {t : Nat} {σ : Mm} {w : Option Value × Mm}  (hS : Sg t σ)  (h : Ev 269 0 [.ref 59] [] σ w) : Cl 269 [.ref 59] σ w :=
  ⟨okr_v (by decide +kernel) oo_269 (by decide) (by rw [xx_269]; exact Nat.le_of_ble_eq_true rfl) rfl (hS.k rfl), by rw [xx_269]; exact h⟩
theorem ck_270 {t : Nat} {σ : Mm} {w : Option Value × Mm}  (hS : Sg t σ)  (h : Ev 270 0 [.ref 59, .retAddr 0] [] σ w) : Cl 270 [.ref 59] σ w :=
  ⟨okr_v (by decide +kernel) oo_270 (by decide) (by rw [xx_270]; exact Nat.le_of_ble_eq_true rfl) rfl (hS.k rfl), by rw [xx_270]; exact h⟩
theorem ck_271 {t : Nat} {σ : Mm} {w : Option Value × Mm}  (hS : Sg t σ)  (h : Ev 271 0 [.ref 59, .retAddr 0] [] σ w) : Cl 271 [.ref 59] σ w :=
  ⟨okr_v (by decide +kernel) oo_271 (by decide) (by rw [xx_271]; exact Nat.le_of_ble_eq_true rfl) rfl (hS.k rfl), by rw [xx_271]; exact h⟩
theorem ck_272 {t : Nat} {σ : Mm} {w : Option Value × Mm} {x1 : Int32} (hS : Sg t σ)  (h : Ev 272 0 [.ref 59, .int x1, .retAddr 0, .retAddr 0] [] σ w) : Cl 272 [.ref 59, .int x1] σ w :=
  ⟨okr_v (by decide +kernel) oo_272 (by decide) (by rw [xx_272]; exact Nat.le_of_ble_eq_true rfl) rfl (hS.k rfl), by rw [xx_272]; exact h⟩
theorem ck_274 {t : Nat} {σ : Mm} {w : Option Value × Mm} {x0 : Int32} (hS : Sg t σ)  (h : Ev 274 0 [.int x0, .retAddr 0] [] σ w) : Cl 274 [.int x0] σ w :=
  ⟨okr_s (by decide +kernel) (by rw [xx_274]; exact Nat.le_of_ble_eq_true rfl) rfl, by rw [xx_274]; exact h⟩
theorem ck_275 {t : Nat} {σ : Mm} {w : Option Value × Mm} {x0 : Int32} (hS : Sg t σ)  (h : Ev 275 0 [.int x0, .retAddr 0] [] σ w) : Cl 275 [.int x0] σ w :=
  ⟨okr_s (by decide +kernel) (by rw [xx_275]; exact Nat.le_of_ble_eq_true rfl) rfl, by rw [xx_275]; exact h⟩
theorem ck_276 {t : Nat} {σ : Mm} {w : Option Value × Mm} {x0 : Int32} (hS : Sg t σ)  (h : Ev 276 0 [.int x0] [] σ w) : Cl 276 [.int x0] σ w :=
  ⟨okr_s (by decide +kernel) (by rw [xx_276]; exact Nat.le_of_ble_eq_true rfl) rfl, by rw [xx_276]; exact h⟩
theorem ck_277 {t : Nat} {σ : Mm} {w : Option Value × Mm} {y0 : Int64} (hS : Sg t σ)  (h : Ev 277 0 [.long y0, .float 0] [] σ w) : Cl 277 [.long y0] σ w :=
  ⟨okr_s (by decide +kernel) (by rw [xx_277]; exact Nat.le_of_ble_eq_true rfl) rfl, by rw [xx_277]; exact h⟩
theorem ck_278 {t : Nat} {σ : Mm} {w : Option Value × Mm} {x0 : Int32} {x1 : Int32} (hS : Sg t σ)  (h : Ev 278 0 [.int x0, .int x1] [] σ w) : Cl 278 [.int x0, .int x1] σ w :=
  ⟨okr_s (by decide +kernel) (by rw [xx_278]; exact Nat.le_of_ble_eq_true rfl) rfl, by rw [xx_278]; exact h⟩
theorem ck_279 {t : Nat} {σ : Mm} {w : Option Value × Mm} {y0 : Int64} {y2 : Int64} (hS : Sg t σ)  (h : Ev 279 0 [.long y0, .float 0, .long y2, .float 0] [] σ w) : Cl 279 [.long y0, .long y2] σ w :=
  ⟨okr_s (by decide +kernel) (by rw [xx_279]; exact Nat.le_of_ble_eq_true rfl) rfl, by rw [xx_279]; exact h⟩
theorem ck_280 {t : Nat} {σ : Mm} {w : Option Value × Mm} {x0 : Int32} {x1 : Int32} (hS : Sg t σ)  (h : Ev 280 0 [.int x0, .int x1] [] σ w) : Cl 280 [.int x0, .int x1] σ w :=
  ⟨okr_s (by decide +kernel) (by rw [xx_280]; exact Nat.le_of_ble_eq_true rfl) rfl, by rw [xx_280]; exact h⟩
theorem ck_281 {t : Nat} {σ : Mm} {w : Option Value × Mm} {y0 : Int64} {y2 : Int64} (hS : Sg t σ)  (h : Ev 281 0 [.long y0, .float 0, .long y2, .float 0] [] σ w) : Cl 281 [.long y0, .long y2] σ w :=
  ⟨okr_s (by decide +kernel) (by rw [xx_281]; exact Nat.le_of_ble_eq_true rfl) rfl, by rw [xx_281]; exact h⟩
