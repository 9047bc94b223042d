theorem sw_13_1 {x : Int32} (h21 : ¬ x = 21) (h22 : ¬ x = 22) (h31 : ¬ x = 31) (h32 : ¬ x = 32) (h33 : ¬ x = 33) (h34 : ¬ x = 34) (h35 : ¬ x = 35) (h36 : ¬ x = 36) (h37 : ¬ x = 37) (h41 : ¬ x = 41) (h42 : ¬ x = 42) (h43 : ¬ x = 43) : swT 21 43 275 #[107, 128, 275, 275, 275, 275, 275, 275, 275, 275, 239, 246, 253, 259, 149, 179, 224, 275, 275, 275, 164, 194, 209] x = some 275 := by
  unfold swT
  split
  · rfl
  next hc =>
    have hx : x.toInt = 21 ∨ x.toInt = 22 ∨ x.toInt = 23 ∨ x.toInt = 24 ∨ x.toInt = 25 ∨ x.toInt = 26 ∨ x.toInt = 27 ∨ x.toInt = 28 ∨ x.toInt = 29 ∨ x.toInt = 30 ∨ x.toInt = 31 ∨ x.toInt = 32 ∨ x.toInt = 33 ∨ x.toInt = 34 ∨ x.toInt = 35 ∨ x.toInt = 36 ∨ x.toInt = 37 ∨ x.toInt = 38 ∨ x.toInt = 39 ∨ x.toInt = 40 ∨ x.toInt = 41 ∨ x.toInt = 42 ∨ x.toInt = 43 := by omega
    rcases hx with h | h | h | h | h | h | h | h | h | h | h | h | h | h | h | h | h | h | h | h | h | h | h
    · exact absurd (Int32.toInt_inj.mp (h.trans (by decide))) h21
    · exact absurd (Int32.toInt_inj.mp (h.trans (by decide))) h22
    · rw [h]; decide +kernel
    · rw [h]; decide +kernel
    · rw [h]; decide +kernel
    · rw [h]; decide +kernel
    · rw [h]; decide +kernel
    · rw [h]; decide +kernel
    · rw [h]; decide +kernel
    · rw [h]; decide +kernel
    · exact absurd (Int32.toInt_inj.mp (h.trans (by decide))) h31
    · exact absurd (Int32.toInt_inj.mp (h.trans (by decide))) h32
    · exact absurd (Int32.toInt_inj.mp (h.trans (by decide))) h33
    · exact absurd (Int32.toInt_inj.mp (h.trans (by decide))) h34
    · exact absurd (Int32.toInt_inj.mp (h.trans (by decide))) h35
    · exact absurd (Int32.toInt_inj.mp (h.trans (by decide))) h36
    · exact absurd (Int32.toInt_inj.mp (h.trans (by decide))) h37
    · rw [h]; decide +kernel
    · rw [h]; decide +kernel
    · rw [h]; decide +kernel
    · exact absurd (Int32.toInt_inj.mp (h.trans (by decide))) h41
    · exact absurd (Int32.toInt_inj.mp (h.trans (by decide))) h42
    · exact absurd (Int32.toInt_inj.mp (h.trans (by decide))) h43
theorem sw_51_4 {x : Int32} (h10 : ¬ x = 10) (h11 : ¬ x = 11) (h12 : ¬ x = 12) (h13 : ¬ x = 13) (h14 : ¬ x = 14) (h15 : ¬ x = 15) (h16 : ¬ x = 16) (h17 : ¬ x = 17) : swT 10 17 136 #[48, 56, 88, 96, 104, 112, 120, 128] x = some 136 := by
  unfold swT
  split
  · rfl
  next hc =>
    have hx : x.toInt = 10 ∨ x.toInt = 11 ∨ x.toInt = 12 ∨ x.toInt = 13 ∨ x.toInt = 14 ∨ x.toInt = 15 ∨ x.toInt = 16 ∨ x.toInt = 17 := by omega
    rcases hx with h | h | h | h | h | h | h | h
    · exact absurd (Int32.toInt_inj.mp (h.trans (by decide))) h10
    · exact absurd (Int32.toInt_inj.mp (h.trans (by decide))) h11
    · exact absurd (Int32.toInt_inj.mp (h.trans (by decide))) h12
    · exact absurd (Int32.toInt_inj.mp (h.trans (by decide))) h13
    · exact absurd (Int32.toInt_inj.mp (h.trans (by decide))) h14
    · exact absurd (Int32.toInt_inj.mp (h.trans (by decide))) h15
    · exact absurd (Int32.toInt_inj.mp (h.trans (by decide))) h16
    · exact absurd (Int32.toInt_inj.mp (h.trans (by decide))) h17
theorem sw_69_1 {x : Int32} (h21 : ¬ x = 21) (h22 : ¬ x = 22) (h23 : ¬ x = 23) (h31 : ¬ x = 31) (h32 : ¬ x = 32) (h33 : ¬ x = 33) (h34 : ¬ x = 34) (h35 : ¬ x = 35) (h36 : ¬ x = 36) (h37 : ¬ x = 37) (h41 : ¬ x = 41) (h42 : ¬ x = 42) (h43 : ¬ x = 43) : swT 21 43 120 #[107, 109, 111, 120, 120, 120, 120, 120, 120, 120, 115, 115, 117, 117, 113, 113, 113, 120, 120, 120, 113, 113, 113] x = some 120 := by
  unfold swT
  split
  · rfl
  next hc =>
    have hx : x.toInt = 21 ∨ x.toInt = 22 ∨ x.toInt = 23 ∨ x.toInt = 24 ∨ x.toInt = 25 ∨ x.toInt = 26 ∨ x.toInt = 27 ∨ x.toInt = 28 ∨ x.toInt = 29 ∨ x.toInt = 30 ∨ x.toInt = 31 ∨ x.toInt = 32 ∨ x.toInt = 33 ∨ x.toInt = 34 ∨ x.toInt = 35 ∨ x.toInt = 36 ∨ x.toInt = 37 ∨ x.toInt = 38 ∨ x.toInt = 39 ∨ x.toInt = 40 ∨ x.toInt = 41 ∨ x.toInt = 42 ∨ x.toInt = 43 := by omega
    rcases hx with h | h | h | h | h | h | h | h | h | h | h | h | h | h | h | h | h | h | h | h | h | h | h
    · exact absurd (Int32.toInt_inj.mp (h.trans (by decide))) h21
    · exact absurd (Int32.toInt_inj.mp (h.trans (by decide))) h22
    · exact absurd (Int32.toInt_inj.mp (h.trans (by decide))) h23
    · rw [h]; decide +kernel
    · rw [h]; decide +kernel
    · rw [h]; decide +kernel
    · rw [h]; decide +kernel
    · rw [h]; decide +kernel
    · rw [h]; decide +kernel
    · rw [h]; decide +kernel
    · exact absurd (Int32.toInt_inj.mp (h.trans (by decide))) h31
    · exact absurd (Int32.toInt_inj.mp (h.trans (by decide))) h32
    · exact absurd (Int32.toInt_inj.mp (h.trans (by decide))) h33
    · exact absurd (Int32.toInt_inj.mp (h.trans (by decide))) h34
    · exact absurd (Int32.toInt_inj.mp (h.trans (by decide))) h35
    · exact absurd (Int32.toInt_inj.mp (h.trans (by decide))) h36
    · exact absurd (Int32.toInt_inj.mp (h.trans (by decide))) h37
    · rw [h]; decide +kernel
    · rw [h]; decide +kernel
    · rw [h]; decide +kernel
    · exact absurd (Int32.toInt_inj.mp (h.trans (by decide))) h41
    · exact absurd (Int32.toInt_inj.mp (h.trans (by decide))) h42
    · exact absurd (Int32.toInt_inj.mp (h.trans (by decide))) h43
theorem sw_103_1 {x : Int32} (h0 : ¬ x = 0) (h1 : ¬ x = 1) : Op.lookupswitch.offset (#[(0, 27), (1, 35)] : Array (Int × Int)).toList 43 x.toInt = 43 := by
  have g0 : ¬ x.toInt = 0 := fun z => h0 (Int32.toInt_inj.mp (z.trans (by decide)))
  have g1 : ¬ x.toInt = 1 := fun z => h1 (Int32.toInt_inj.mp (z.trans (by decide)))
  simp [Op.lookupswitch.offset, g0, Ne.symm g0, g1, Ne.symm g1]
theorem sw_104_1 {x : Int32} (h0 : ¬ x = 0) (h1 : ¬ x = 1) : Op.lookupswitch.offset (#[(0, 27), (1, 36)] : Array (Int × Int)).toList 45 x.toInt = 45 := by
  have g0 : ¬ x.toInt = 0 := fun z => h0 (Int32.toInt_inj.mp (z.trans (by decide)))
  have g1 : ¬ x.toInt = 1 := fun z => h1 (Int32.toInt_inj.mp (z.trans (by decide)))
  simp [Op.lookupswitch.offset, g0, Ne.symm g0, g1, Ne.symm g1]
theorem sw_105_11 {x : Int32} (h0 : ¬ x = 0) (h1 : ¬ x = 1) (h2 : ¬ x = 2) (h3 : ¬ x = 3) : swT 0 3 71 #[29, 39, 51, 61] x = some 71 := by
  unfold swT
  split
  · rfl
  next hc =>
    have hx : x.toInt = 0 ∨ x.toInt = 1 ∨ x.toInt = 2 ∨ x.toInt = 3 := by omega
    rcases hx with h | h | h | h
    · exact absurd (Int32.toInt_inj.mp (h.trans (by decide))) h0
    · exact absurd (Int32.toInt_inj.mp (h.trans (by decide))) h1
    · exact absurd (Int32.toInt_inj.mp (h.trans (by decide))) h2
    · exact absurd (Int32.toInt_inj.mp (h.trans (by decide))) h3
theorem sw_106_1 {x : Int32} (h0 : ¬ x = 0) (h1 : ¬ x = 1) (h2 : ¬ x = 2) : swT 0 2 51 #[27, 35, 43] x = some 51 := by
  unfold swT
  split
  · rfl
  next hc =>
    have hx : x.toInt = 0 ∨ x.toInt = 1 ∨ x.toInt = 2 := by omega
    rcases hx with h | h | h
    · exact absurd (Int32.toInt_inj.mp (h.trans (by decide))) h0
    · exact absurd (Int32.toInt_inj.mp (h.trans (by decide))) h1
    · exact absurd (Int32.toInt_inj.mp (h.trans (by decide))) h2
theorem sw_112_57 {x : Int32} (h0 : ¬ x = 0) (h1 : ¬ x = 1) (h2 : ¬ x = 2) (h3 : ¬ x = 3) : swT 0 3 85 #[31, 42, 58, 74] x = some 85 := by
  unfold swT
  split
  · rfl
  next hc =>
    have hx : x.toInt = 0 ∨ x.toInt = 1 ∨ x.toInt = 2 ∨ x.toInt = 3 := by omega
    rcases hx with h | h | h | h
    · exact absurd (Int32.toInt_inj.mp (h.trans (by decide))) h0
    · exact absurd (Int32.toInt_inj.mp (h.trans (by decide))) h1
    · exact absurd (Int32.toInt_inj.mp (h.trans (by decide))) h2
    · exact absurd (Int32.toInt_inj.mp (h.trans (by decide))) h3
theorem sw_122_48 {x : Int32} (h0 : ¬ x = 0) (h1 : ¬ x = 1) : Op.lookupswitch.offset (#[(0, 28), (1, 33)] : Array (Int × Int)).toList 35 x.toInt = 35 := by
  have g0 : ¬ x.toInt = 0 := fun z => h0 (Int32.toInt_inj.mp (z.trans (by decide)))
  have g1 : ¬ x.toInt = 1 := fun z => h1 (Int32.toInt_inj.mp (z.trans (by decide)))
  simp [Op.lookupswitch.offset, g0, Ne.symm g0, g1, Ne.symm g1]
theorem sw_128_89 {x : Int32} (h0 : ¬ x = 0) (h2 : ¬ x = 2) : Op.lookupswitch.offset (#[(0, 29), (2, 27)] : Array (Int × Int)).toList 31 x.toInt = 31 := by
  have g0 : ¬ x.toInt = 0 := fun z => h0 (Int32.toInt_inj.mp (z.trans (by decide)))
  have g2 : ¬ x.toInt = 2 := fun z => h2 (Int32.toInt_inj.mp (z.trans (by decide)))
  simp [Op.lookupswitch.offset, g0, Ne.symm g0, g2, Ne.symm g2]
theorem sw_141_1 {x : Int32} (h0 : ¬ x = 0) (h1 : ¬ x = 1) (h2 : ¬ x = 2) (h3 : ¬ x = 3) (h4 : ¬ x = 4) (h5 : ¬ x = 5) (h6 : ¬ x = 6) (h7 : ¬ x = 7) (h8 : ¬ x = 8) (h9 : ¬ x = 9) (h10 : ¬ x = 10) (h11 : ¬ x = 11) (h12 : ¬ x = 12) (h13 : ¬ x = 13) (h14 : ¬ x = 14) : swT 0 14 207 #[75, 83, 91, 99, 107, 115, 126, 137, 148, 159, 167, 175, 183, 191, 199] x = some 207 := by
  unfold swT
  split
  · rfl
  next hc =>
    have hx : x.toInt = 0 ∨ x.toInt = 1 ∨ x.toInt = 2 ∨ x.toInt = 3 ∨ x.toInt = 4 ∨ x.toInt = 5 ∨ x.toInt = 6 ∨ x.toInt = 7 ∨ x.toInt = 8 ∨ x.toInt = 9 ∨ x.toInt = 10 ∨ x.toInt = 11 ∨ x.toInt = 12 ∨ x.toInt = 13 ∨ x.toInt = 14 := by omega
    rcases hx with h | h | h | h | h | h | h | h | h | h | h | h | h | h | h
    · exact absurd (Int32.toInt_inj.mp (h.trans (by decide))) h0
    · exact absurd (Int32.toInt_inj.mp (h.trans (by decide))) h1
    · exact absurd (Int32.toInt_inj.mp (h.trans (by decide))) h2
    · exact absurd (Int32.toInt_inj.mp (h.trans (by decide))) h3
    · exact absurd (Int32.toInt_inj.mp (h.trans (by decide))) h4
    · exact absurd (Int32.toInt_inj.mp (h.trans (by decide))) h5
    · exact absurd (Int32.toInt_inj.mp (h.trans (by decide))) h6
    · exact absurd (Int32.toInt_inj.mp (h.trans (by decide))) h7
    · exact absurd (Int32.toInt_inj.mp (h.trans (by decide))) h8
    · exact absurd (Int32.toInt_inj.mp (h.trans (by decide))) h9
    · exact absurd (Int32.toInt_inj.mp (h.trans (by decide))) h10
    · exact absurd (Int32.toInt_inj.mp (h.trans (by decide))) h11
    · exact absurd (Int32.toInt_inj.mp (h.trans (by decide))) h12
    · exact absurd (Int32.toInt_inj.mp (h.trans (by decide))) h13
    · exact absurd (Int32.toInt_inj.mp (h.trans (by decide))) h14
theorem sw_177_27 {x : Int32} (h0 : ¬ x = 0) (h1 : ¬ x = 1) (h2 : ¬ x = 2) (h3 : ¬ x = 3) (h4 : ¬ x = 4) (h5 : ¬ x = 5) (h6 : ¬ x = 6) : swT 0 6 103 #[41, 49, 57, 65, 73, 81, 92] x = some 103 := by
  unfold swT
  split
  · rfl
  next hc =>
    have hx : x.toInt = 0 ∨ x.toInt = 1 ∨ x.toInt = 2 ∨ x.toInt = 3 ∨ x.toInt = 4 ∨ x.toInt = 5 ∨ x.toInt = 6 := by omega
    rcases hx with h | h | h | h | h | h | h
    · exact absurd (Int32.toInt_inj.mp (h.trans (by decide))) h0
    · exact absurd (Int32.toInt_inj.mp (h.trans (by decide))) h1
    · exact absurd (Int32.toInt_inj.mp (h.trans (by decide))) h2
    · exact absurd (Int32.toInt_inj.mp (h.trans (by decide))) h3
    · exact absurd (Int32.toInt_inj.mp (h.trans (by decide))) h4
    · exact absurd (Int32.toInt_inj.mp (h.trans (by decide))) h5
    · exact absurd (Int32.toInt_inj.mp (h.trans (by decide))) h6
theorem sw_192_1 {x : Int32} (h5 : ¬ x = 5) (h6 : ¬ x = 6) (h7 : ¬ x = 7) (h8 : ¬ x = 8) (h9 : ¬ x = 9) : swT 5 9 95 #[35, 47, 59, 71, 83] x = some 95 := by
  unfold swT
  split
  · rfl
  next hc =>
    have hx : x.toInt = 5 ∨ x.toInt = 6 ∨ x.toInt = 7 ∨ x.toInt = 8 ∨ x.toInt = 9 := by omega
    rcases hx with h | h | h | h | h
    · exact absurd (Int32.toInt_inj.mp (h.trans (by decide))) h5
    · exact absurd (Int32.toInt_inj.mp (h.trans (by decide))) h6
    · exact absurd (Int32.toInt_inj.mp (h.trans (by decide))) h7
    · exact absurd (Int32.toInt_inj.mp (h.trans (by decide))) h8
    · exact absurd (Int32.toInt_inj.mp (h.trans (by decide))) h9
theorem sw_194_92 {x : Int32} (h3 : ¬ x = 3) (h4 : ¬ x = 4) (h11 : ¬ x = 11) (h12 : ¬ x = 12) (h13 : ¬ x = 13) (h14 : ¬ x = 14) : swT 3 14 167 #[64, 83, 167, 167, 167, 167, 167, 167, 102, 111, 120, 128] x = some 167 := by
  unfold swT
  split
  · rfl
  next hc =>
    have hx : x.toInt = 3 ∨ x.toInt = 4 ∨ x.toInt = 5 ∨ x.toInt = 6 ∨ x.toInt = 7 ∨ x.toInt = 8 ∨ x.toInt = 9 ∨ x.toInt = 10 ∨ x.toInt = 11 ∨ x.toInt = 12 ∨ x.toInt = 13 ∨ x.toInt = 14 := by omega
    rcases hx with h | h | h | h | h | h | h | h | h | h | h | h
    · exact absurd (Int32.toInt_inj.mp (h.trans (by decide))) h3
    · exact absurd (Int32.toInt_inj.mp (h.trans (by decide))) h4
    · rw [h]; decide +kernel
    · rw [h]; decide +kernel
    · rw [h]; decide +kernel
    · rw [h]; decide +kernel
    · rw [h]; decide +kernel
    · rw [h]; decide +kernel
    · exact absurd (Int32.toInt_inj.mp (h.trans (by decide))) h11
    · exact absurd (Int32.toInt_inj.mp (h.trans (by decide))) h12
    · exact absurd (Int32.toInt_inj.mp (h.trans (by decide))) h13
    · exact absurd (Int32.toInt_inj.mp (h.trans (by decide))) h14
theorem sw_216_20 {x : Int32} (h0 : ¬ x = 0) (h1 : ¬ x = 1) (h2 : ¬ x = 2) (h3 : ¬ x = 3) : swT 0 3 71 #[32, 43, 54, 61] x = some 71 := by
  unfold swT
  split
  · rfl
  next hc =>
    have hx : x.toInt = 0 ∨ x.toInt = 1 ∨ x.toInt = 2 ∨ x.toInt = 3 := by omega
    rcases hx with h | h | h | h
    · exact absurd (Int32.toInt_inj.mp (h.trans (by decide))) h0
    · exact absurd (Int32.toInt_inj.mp (h.trans (by decide))) h1
    · exact absurd (Int32.toInt_inj.mp (h.trans (by decide))) h2
    · exact absurd (Int32.toInt_inj.mp (h.trans (by decide))) h3
theorem sw_217_16 {x : Int32} (h0 : ¬ x = 0) (h1 : ¬ x = 1) (h2 : ¬ x = 2) (h3 : ¬ x = 3) : swT 0 3 64 #[32, 39, 50, 57] x = some 64 := by
  unfold swT
  split
  · rfl
  next hc =>
    have hx : x.toInt = 0 ∨ x.toInt = 1 ∨ x.toInt = 2 ∨ x.toInt = 3 := by omega
    rcases hx with h | h | h | h
    · exact absurd (Int32.toInt_inj.mp (h.trans (by decide))) h0
    · exact absurd (Int32.toInt_inj.mp (h.trans (by decide))) h1
    · exact absurd (Int32.toInt_inj.mp (h.trans (by decide))) h2
    · exact absurd (Int32.toInt_inj.mp (h.trans (by decide))) h3
theorem sw_224_37 {x : Int32} (h0 : ¬ x = 0) (h1 : ¬ x = 1) (h2 : ¬ x = 2) (h3 : ¬ x = 3) : swT 0 3 78 #[31, 40, 54, 68] x = some 78 := by
  unfold swT
  split
  · rfl
  next hc =>
    have hx : x.toInt = 0 ∨ x.toInt = 1 ∨ x.toInt = 2 ∨ x.toInt = 3 := by omega
    rcases hx with h | h | h | h
    · exact absurd (Int32.toInt_inj.mp (h.trans (by decide))) h0
    · exact absurd (Int32.toInt_inj.mp (h.trans (by decide))) h1
    · exact absurd (Int32.toInt_inj.mp (h.trans (by decide))) h2
    · exact absurd (Int32.toInt_inj.mp (h.trans (by decide))) h3
theorem sw_272_8 {x : Int32} (h0 : ¬ x = 0) (h1 : ¬ x = 1) (h2 : ¬ x = 2) (h3 : ¬ x = 3) (h4 : ¬ x = 4) (h5 : ¬ x = 5) (h6 : ¬ x = 6) (h7 : ¬ x = 7) (h8 : ¬ x = 8) (h9 : ¬ x = 9) (h10 : ¬ x = 10) (h11 : ¬ x = 11) (h12 : ¬ x = 12) (h13 : ¬ x = 13) (h14 : ¬ x = 14) : swT 0 14 201 #[76, 81, 86, 91, 96, 103, 112, 122, 132, 142, 149, 156, 186, 191, 196] x = some 201 := by
  unfold swT
  split
  · rfl
  next hc =>
    have hx : x.toInt = 0 ∨ x.toInt = 1 ∨ x.toInt = 2 ∨ x.toInt = 3 ∨ x.toInt = 4 ∨ x.toInt = 5 ∨ x.toInt = 6 ∨ x.toInt = 7 ∨ x.toInt = 8 ∨ x.toInt = 9 ∨ x.toInt = 10 ∨ x.toInt = 11 ∨ x.toInt = 12 ∨ x.toInt = 13 ∨ x.toInt = 14 := by omega
    rcases hx with h | h | h | h | h | h | h | h | h | h | h | h | h | h | h
    · exact absurd (Int32.toInt_inj.mp (h.trans (by decide))) h0
    · exact absurd (Int32.toInt_inj.mp (h.trans (by decide))) h1
    · exact absurd (Int32.toInt_inj.mp (h.trans (by decide))) h2
    · exact absurd (Int32.toInt_inj.mp (h.trans (by decide))) h3
    · exact absurd (Int32.toInt_inj.mp (h.trans (by decide))) h4
    · exact absurd (Int32.toInt_inj.mp (h.trans (by decide))) h5
    · exact absurd (Int32.toInt_inj.mp (h.trans (by decide))) h6
    · exact absurd (Int32.toInt_inj.mp (h.trans (by decide))) h7
    · exact absurd (Int32.toInt_inj.mp (h.trans (by decide))) h8
    · exact absurd (Int32.toInt_inj.mp (h.trans (by decide))) h9
    · exact absurd (Int32.toInt_inj.mp (h.trans (by decide))) h10
    · exact absurd (Int32.toInt_inj.mp (h.trans (by decide))) h11
    · exact absurd (Int32.toInt_inj.mp (h.trans (by decide))) h12
    · exact absurd (Int32.toInt_inj.mp (h.trans (by decide))) h13
    · exact absurd (Int32.toInt_inj.mp (h.trans (by decide))) h14
theorem pS_4_90 : cstI 4 90 = none ∧ cstS 4 90 = some 1000000 := by decide +kernel
theorem pS_4_101 : cstI 4 101 = none ∧ cstS 4 101 = some 1000001 := by decide +kernel
theorem Sg.uI {t a j : Nat} {v : Int32} {σ : Mm} (h : Sg t σ) : Sg t (uI σ a j v) := h
theorem Sg.uL {t a j : Nat} {v : Int64} {σ : Mm} (h : Sg t σ) : Sg t (uL σ a j v) := h
theorem Sg.uW {t a : Nat} {f : Nat → Int32} {σ : Mm} (h : Sg t σ) : Sg t (uW σ a f) := h
theorem okI_no {σ : Mm} {a n : Nat} {i : Int32} (hk : mK σ a = some (13, n)) : okI σ a i 10 = false := by
  unfold okI
  rw [hk]
  rfl
