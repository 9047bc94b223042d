theorem sw_273_40 {x : Int32} (h0 : ¬ x = 0) (h1 : ¬ x = 1) (h2 : ¬ x = 2) (h3 : ¬ x = 3) (h4 : ¬ x = 4) (h5 : ¬ x = 5) (h6 : ¬ x = 6) (h7 : ¬ x = 7) (h8 : ¬ x = 8) (h9 : ¬ x = 9) (h10 : ¬ x = 10) (h11 : ¬ x = 11) (h12 : ¬ x = 12) (h13 : ¬ x = 13) (h14 : ¬ x = 14) (h15 : ¬ x = 15) (h16 : ¬ x = 16) (h17 : ¬ x = 17) (h18 : ¬ x = 18) (h19 : ¬ x = 19) (h20 : ¬ x = 20) (h21 : ¬ x = 21) (h22 : ¬ x = 22) (h23 : ¬ x = 23) (h24 : ¬ x = 24) (h25 : ¬ x = 25) (h26 : ¬ x = 26) (h27 : ¬ x = 27) (h28 : ¬ x = 28) (h29 : ¬ x = 29) (h30 : ¬ x = 30) (h31 : ¬ x = 31) (h32 : ¬ x = 32) (h33 : ¬ x = 33) (h34 : ¬ x = 34) (h35 : ¬ x = 35) (h36 : ¬ x = 36) (h37 : ¬ x = 37) (h38 : ¬ x = 38) (h39 : ¬ x = 39) (h40 : ¬ x = 40) (h41 : ¬ x = 41) : swT 0 41 1415 #[184, 257, 282, 307, 344, 412, 449, 474, 512, 537, 574, 587, 612, 649, 674, 699, 724, 761, 798, 811, 824, 849, 874, 899, 924, 937, 962, 999, 1024, 1049, 1087, 1152, 1177, 1202, 1215, 1240, 1253, 1302, 1351, 1364, 1377, 1390] x = some 1415 := by
  unfold swT
  split
  · rfl
  next hc =>
    have hx : x.toInt = 0 ∨ x.toInt = 1 ∨ x.toInt = 2 ∨ x.toInt = 3 ∨ x.toInt = 4 ∨ x.toInt = 5 ∨ x.toInt = 6 ∨ x.toInt = 7 ∨ x.toInt = 8 ∨ x.toInt = 9 ∨ x.toInt = 10 ∨ x.toInt = 11 ∨ x.toInt = 12 ∨ x.toInt = 13 ∨ x.toInt = 14 ∨ x.toInt = 15 ∨ x.toInt = 16 ∨ x.toInt = 17 ∨ x.toInt = 18 ∨ x.toInt = 19 ∨ x.toInt = 20 ∨ x.toInt = 21 ∨ x.toInt = 22 ∨ x.toInt = 23 ∨ x.toInt = 24 ∨ x.toInt = 25 ∨ x.toInt = 26 ∨ x.toInt = 27 ∨ x.toInt = 28 ∨ x.toInt = 29 ∨ x.toInt = 30 ∨ x.toInt = 31 ∨ x.toInt = 32 ∨ x.toInt = 33 ∨ x.toInt = 34 ∨ x.toInt = 35 ∨ x.toInt = 36 ∨ x.toInt = 37 ∨ x.toInt = 38 ∨ x.toInt = 39 ∨ x.toInt = 40 ∨ x.toInt = 41 := by omega
    rcases hx with h | h | h | h | h | h | h | h | h | h | h | h | h | h | h | h | h | h | h | h | h | h | h | h | h | h | h | h | h | h | h | h | h | h | h | h | h | h | h | h | h | h
    · exact absurd (Int32.toInt_inj.mp (h.trans (by decide))) h0
    · exact absurd (Int32.toInt_inj.mp (h.trans (by decide))) h1
    · exact absurd (Int32.toInt_inj.mp (h.trans (by decide))) h2
    · exact absurd (Int32.toInt_inj.mp (h.trans (by decide))) h3
    · exact absurd (Int32.toInt_inj.mp (h.trans (by decide))) h4
    · exact absurd (Int32.toInt_inj.mp (h.trans (by decide))) h5
    · exact absurd (Int32.toInt_inj.mp (h.trans (by decide))) h6
    · exact absurd (Int32.toInt_inj.mp (h.trans (by decide))) h7
    · exact absurd (Int32.toInt_inj.mp (h.trans (by decide))) h8
    · exact absurd (Int32.toInt_inj.mp (h.trans (by decide))) h9
    · exact absurd (Int32.toInt_inj.mp (h.trans (by decide))) h10
    · exact absurd (Int32.toInt_inj.mp (h.trans (by decide))) h11
    · exact absurd (Int32.toInt_inj.mp (h.trans (by decide))) h12
    · exact absurd (Int32.toInt_inj.mp (h.trans (by decide))) h13
    · exact absurd (Int32.toInt_inj.mp (h.trans (by decide))) h14
    · exact absurd (Int32.toInt_inj.mp (h.trans (by decide))) h15
    · exact absurd (Int32.toInt_inj.mp (h.trans (by decide))) h16
    · exact absurd (Int32.toInt_inj.mp (h.trans (by decide))) h17
    · exact absurd (Int32.toInt_inj.mp (h.trans (by decide))) h18
    · exact absurd (Int32.toInt_inj.mp (h.trans (by decide))) h19
    · exact absurd (Int32.toInt_inj.mp (h.trans (by decide))) h20
    · exact absurd (Int32.toInt_inj.mp (h.trans (by decide))) h21
    · exact absurd (Int32.toInt_inj.mp (h.trans (by decide))) h22
    · exact absurd (Int32.toInt_inj.mp (h.trans (by decide))) h23
    · exact absurd (Int32.toInt_inj.mp (h.trans (by decide))) h24
    · exact absurd (Int32.toInt_inj.mp (h.trans (by decide))) h25
    · exact absurd (Int32.toInt_inj.mp (h.trans (by decide))) h26
    · exact absurd (Int32.toInt_inj.mp (h.trans (by decide))) h27
    · exact absurd (Int32.toInt_inj.mp (h.trans (by decide))) h28
    · exact absurd (Int32.toInt_inj.mp (h.trans (by decide))) h29
    · exact absurd (Int32.toInt_inj.mp (h.trans (by decide))) h30
    · exact absurd (Int32.toInt_inj.mp (h.trans (by decide))) h31
    · exact absurd (Int32.toInt_inj.mp (h.trans (by decide))) h32
    · exact absurd (Int32.toInt_inj.mp (h.trans (by decide))) h33
    · exact absurd (Int32.toInt_inj.mp (h.trans (by decide))) h34
    · exact absurd (Int32.toInt_inj.mp (h.trans (by decide))) h35
    · exact absurd (Int32.toInt_inj.mp (h.trans (by decide))) h36
    · exact absurd (Int32.toInt_inj.mp (h.trans (by decide))) h37
    · exact absurd (Int32.toInt_inj.mp (h.trans (by decide))) h38
    · exact absurd (Int32.toInt_inj.mp (h.trans (by decide))) h39
    · exact absurd (Int32.toInt_inj.mp (h.trans (by decide))) h40
    · exact absurd (Int32.toInt_inj.mp (h.trans (by decide))) h41
/-! ===== the law: lamp's case, one turn, the loop ===== -/
section XB2
variable {t : Nat} {σ : Mm} {D H : Nat → Nat → Nat} {L i : Nat} {xs : Nat → Int32} {P : Mm → Prop}
theorem i_chance {x y z : Int32} (h : Inv t σ D H) : PrS 136 264 [.int x, .int y, .int z] t σ := by
  obtain ⟨v, σ1, σ2, h1, f1, h2, f2, e⟩ := q_chance (x := x) (y := y) (z := z) h.1
  exact ⟨v, σ1, σ2, t, D, H, h1, f1.sg h.1.sg, h2, (h.fr f1).fr2 f2 e⟩
/-- behind the first side's lamp -/
theorem w_401 {r v : Int32} {σa σb : Mm} {z5 z6 : Value} {w : Option Value × Mm} (Sa : Sg t σa) (Sb : Sg t σb) (h9 : S9 σb) (hX : mX σa = (L, xs)) (hi : i + 6 ≤ L) (hL : L ≤ 3072) (c1 : Cl 216 [.ref 59, .int (xs (i + 1)), .int (xs (i + 2))] σa (some (.int v), σb)) (hr : mI σb 59 2 = r) (hv : r = 0 → mL σb 99 0 = v.toInt64) (hk : Ev 273 1455 [.ref 2000000, .ref 0, .ref 59, .ref 99, .int (nI i), .int r, .int v] [] σb w) : Ev 273 401 [.ref 2000000, .ref 0, .ref 59, .ref 99, .int (nI i), z5, z6] [.int r] σa w := by
  have c2 := c_150 Sb
  rw [hr] at c2
  have l449 : Ev 273 449 [.ref 2000000, .ref 0, .ref 59, .ref 99, .int (nI i), .int r, .int v] [] σb w := e_goto (t := 1455) d_273_449 (by decide) hk
  refine e_istore (ls2 := [.ref 2000000, .ref 0, .ref 59, .ref 99, .int (nI i), .int r, z6]) d_273_401 rfl rfl rfl ?_
  refine e_aload_n d_273_403 rfl rfl ?_
  refine e_aload_n d_273_404 rfl rfl ?_
  refine e_iload d_273_405 rfl rfl ?_
  refine e_iconst d_273_407 ci_1 rfl ?_
  refine e_iadd d_273_408 rfl ?_
  refine e_iaload (v := xs (i + 1)) d_273_409 (rdX Sa hX rfl (by omega) (by omega)) rfl ?_
  refine e_aload_n d_273_410 rfl rfl ?_
  refine e_iload d_273_411 rfl rfl ?_
  refine e_iconst d_273_413 ci_2 rfl ?_
  refine e_iadd d_273_414 rfl ?_
  refine e_iaload (v := xs (i + 2)) d_273_415 (rdX Sa hX rfl (by omega) (by omega)) rfl ?_
  refine e_vcall (w1 := (some (.int v), σb)) d_273_416 kc_273_416 rfl ⟨Nat.le_of_ble_eq_true rfl, xx_273.symm⟩ rfl c1 ?_
  show Ev 273 419 [.ref 2000000, .ref 0, .ref 59, .ref 99, .int (nI i), .int r, z6] [.int v] σb w
  refine e_istore (ls2 := [.ref 2000000, .ref 0, .ref 59, .ref 99, .int (nI i), .int r, .int v]) d_273_419 rfl rfl rfl ?_
  refine e_aload_n d_273_421 rfl rfl ?_
  refine e_vcall (w1 := (some (.int r), σb)) d_273_422 kc_273_422 rfl ⟨Nat.le_of_ble_eq_true rfl, xx_273.symm⟩ rfl c2 ?_
  show Ev 273 425 [.ref 2000000, .ref 0, .ref 59, .ref 99, .int (nI i), .int r, .int v] [.int r] σb w
  refine e_iload d_273_425 rfl rfl ?_
  refine e_icmp_eq (t := 432) d_273_427 (by decide) rfl (fun _ => ?_) (fun hc => absurd rfl hc)
  refine e_iload d_273_432 rfl rfl ?_
  refine e_if_ne (t := 449) d_273_434 (by decide) rfl (fun _ => l449) (fun hc => ?_)
  refine e_aload_n d_273_437 rfl rfl ?_
  refine e_iconst d_273_438 ci_0 rfl ?_
  refine e_laload (v := mL σb 99 0) d_273_439 (rdL_at (s9_k h9) rfl) rfl ?_
  refine e_iload d_273_440 rfl rfl ?_
  refine e_i2l d_273_442 rfl ?_
  exact e_lc_eq (t := 449) d_273_443 d_273_444 rfl (by decide) rfl (fun _ => l449) (fun hz => absurd (hv hc) hz)
theorem w_384 {z5 z6 : Value} (hI : Inv t σ D H) (h9 : S9 σ) (hX : mX σ = (L, xs)) (hi : i + 6 ≤ L) (hL : L ≤ 3072) (hk : ∀ σ' z5 z6, Inv t σ' D H → S9 σ' → mX σ' = (L, xs) → (mU σ' = mU σ ∨ mU σ' = mU (lost σ 6)) → ∃ σf, Ev 273 1455 [.ref 2000000, .ref 0, .ref 59, .ref 99, .int (nI i), z5, z6] [] σ' (some (.int 1), σf) ∧ P σf) : ∃ σf, Ev 273 384 [.ref 2000000, .ref 0, .ref 59, .ref 99, .int (nI i), z5, z6] [] σ (some (.int 1), σf) ∧ P σf := by
  have S0 := hI.1.sg
  have hd : ∀ (r : Int32) (σa : Mm) (w : Option Value × Mm), (∃ n, ∀ m, n ≤ m → lampP 0 (xs (i + 1)) (xs (i + 2)) 99 σ (cln m) = some (r, σa)) → Ev 273 401 [.ref 2000000, .ref 0, .ref 59, .ref 99, .int (nI i), z5, z6] [.int r] σa w → Ev 273 384 [.ref 2000000, .ref 0, .ref 59, .ref 99, .int (nI i), z5, z6] [] σ w := by
    intro r σa w hl h
    refine e_aload_n d_273_384 rfl rfl ?_
    refine e_aload_n d_273_385 rfl rfl ?_
    refine e_iload d_273_386 rfl rfl ?_
    refine e_iconst d_273_388 ci_1 rfl ?_
    refine e_iadd d_273_389 rfl ?_
    refine e_iaload (v := xs (i + 1)) d_273_390 (rdX S0 hX rfl (by omega) (by omega)) rfl ?_
    refine e_aload_n d_273_391 rfl rfl ?_
    refine e_iload d_273_392 rfl rfl ?_
    refine e_iconst d_273_394 ci_2 rfl ?_
    refine e_iadd d_273_395 rfl ?_
    refine e_iaload (v := xs (i + 2)) d_273_396 (rdX S0 hX rfl (by omega) (by omega)) rfl ?_
    refine e_aload_n d_273_397 rfl rfl ?_
    exact e_lamp (w1 := (r, σa)) d_273_398 (show callT (oM 273) 39 = some (7, 0, 4) by decide +kernel) (show 8 ≤ frM 273 ∧ 200 ≤ loM 273 by decide +kernel) ⟨Nat.le_of_ble_eq_true rfl, xx_273.symm⟩ hl rfl h
  have th : ∀ (σa : Mm) (r : Int32), Inv t σa D H → Inv t (uI (uI σa 59 2 0) 59 2 r) D H := fun σa r h => h.fr ((wq_th (σ := σa)).uI (by unfold Wq; omega))
  rcases bad_or (xs (i + 1)) (show D 0 0 < 2 ^ 31 by have := hI.1.hL; omega) with hb | ⟨l, hl, el⟩
  · have Ia : Inv t (lost σ 6) D H := hI.lost
    obtain ⟨σf, e, p⟩ := hk _ (.int 1) (.int 0) (th _ 1 Ia) h9 hX (Or.inr rfl)
    exact ⟨σf, hd 1 _ _ (lam_n hI.1 h9 hb) (w_401 Ia.1.sg (th _ 1 Ia).1.sg h9 hX hi hL (m_lampn Ia.1 hb) mI_s (fun z => absurd z (by decide)) e), p⟩
  · by_cases hy : xs (i + 2) = 0 ∨ xs (i + 2) = 1 ∨ xs (i + 2) = 2 ∨ xs (i + 2) = 3
    · have Ia : Inv t (uL σ 99 0 (lmv H l (xs (i + 2))).toInt64) D H := hI.fr ((Fr.rf σ).uL (by unfold Wq; omega))
      have Ib := Ia.fr wq_th
      obtain ⟨σf, e, p⟩ := hk _ (.int 0) (.int (lmv H l (xs (i + 2)))) Ib h9 hX (Or.inl rfl)
      refine ⟨σf, hd 0 _ _ ?_ (w_401 Ia.1.sg Ib.1.sg h9 hX hi hL ?_ mI_s (fun _ => ?_) e), p⟩
      · rw [el]; exact lam_y hI.1 h9 hl hy
      · rw [el]; exact m_lampy Ia.1 hl hy
      · rfl
    · have Ia : Inv t (lost σ 6) D H := hI.lost
      obtain ⟨σf, e, p⟩ := hk _ (.int 2) (.int 0) (th _ 2 Ia) h9 hX (Or.inr rfl)
      refine ⟨σf, hd 2 _ _ ?_ (w_401 Ia.1.sg (th _ 2 Ia).1.sg h9 hX hi hL ?_ mI_s (fun z => absurd z (by decide)) e), p⟩
      · rw [el]; exact lam_w hI.1 h9 hl hy
      · rw [el]; exact m_lampw Ia.1 hl hy
/-- one turn, from the switch on -/
theorem w_40 {z5 z6 : Value} {x : Int32} (hI : Inv t σ D H) (h9 : S9 σ) (hX : mX σ = (L, xs)) (hi : i + 6 ≤ L) (hL : L ≤ 3072) (hk : ∀ t' σ' D' H' z5 z6, Inv t' σ' D' H' → S9 σ' → mX σ' = (L, xs) → (mU σ' = mU σ ∨ mU σ' = mU (lost σ 6)) → ∃ σf, Ev 273 1455 [.ref 2000000, .ref 0, .ref 59, .ref 99, .int (nI i), z5, z6] [] σ' (some (.int 1), σf) ∧ P σf) : ∃ σf, Ev 273 40 [.ref 2000000, .ref 0, .ref 59, .ref 99, .int (nI i), z5, z6] [.int x] σ (some (.int 1), σf) ∧ P σf := by
  have hk2 : ∀ t' σ' D' H', Inv t' σ' D' H' → S9 σ' → mX σ' = (L, xs) → mU σ' = mU σ → ∃ σf, Ev 273 1455 [.ref 2000000, .ref 0, .ref 59, .ref 99, .int (nI i), z5, z6] [] σ' (some (.int 1), σf) ∧ P σf := fun t' σ' D' H' a a9 b c => hk t' σ' D' H' z5 z6 a a9 b (Or.inl c)
  by_cases g0 : x = 0
  · obtain ⟨σf, e, p⟩ := w_224 hI h9 hX hi hL (i_feed hI) hk2
    exact ⟨σf, e_table (off := 184) (t := 224) d_273_40 (by rw [g0]; decide +kernel) (by decide) e, p⟩
  by_cases g1 : x = 1
  · obtain ⟨σf, e, p⟩ := w_297 hI h9 hX hi hL (i_text hI) hk2
    exact ⟨σf, e_table (off := 257) (t := 297) d_273_40 (by rw [g1]; decide +kernel) (by decide) e, p⟩
  by_cases g2 : x = 2
  · obtain ⟨σf, e, p⟩ := w_322 hI h9 hX hi hL ((i_fault hI).st hI) hk2
    exact ⟨σf, e_table (off := 282) (t := 322) d_273_40 (by rw [g2]; decide +kernel) (by decide) e, p⟩
  by_cases g3 : x = 3
  · obtain ⟨σf, e, p⟩ := w_347 hI h9 hX hi hL ((q_named hI.1).st hI) hk2
    exact ⟨σf, e_table (off := 307) (t := 347) d_273_40 (by rw [g3]; decide +kernel) (by decide) e, p⟩
  by_cases g4 : x = 4
  · obtain ⟨σf, e, p⟩ := w_384 hI h9 hX hi hL (fun σ' z5 z6 a a9 b c => hk t σ' D H z5 z6 a a9 b c)
    exact ⟨σf, e_table (off := 344) (t := 384) d_273_40 (by rw [g4]; decide +kernel) (by decide) e, p⟩
  by_cases g5 : x = 5
  · obtain ⟨σf, e, p⟩ := w_452 hI h9 hX hi hL ((q_pull hI.1).st hI) hk2
    exact ⟨σf, e_table (off := 412) (t := 452) d_273_40 (by rw [g5]; decide +kernel) (by decide) e, p⟩
  by_cases g6 : x = 6
  · obtain ⟨σf, e, p⟩ := w_489 hI h9 hX hi hL ((q_evening hI.1).st hI) hk2
    exact ⟨σf, e_table (off := 449) (t := 489) d_273_40 (by rw [g6]; decide +kernel) (by decide) e, p⟩
  by_cases g7 : x = 7
  · obtain ⟨σf, e, p⟩ := w_514 hI h9 hX hi hL ((q_law hI.1).st hI) hk2
    exact ⟨σf, e_table (off := 474) (t := 514) d_273_40 (by rw [g7]; decide +kernel) (by decide) e, p⟩
  by_cases g8 : x = 8
  · obtain ⟨σf, e, p⟩ := w_552 hI h9 hX hi hL (i_ring hI) hk2
    exact ⟨σf, e_table (off := 512) (t := 552) d_273_40 (by rw [g8]; decide +kernel) (by decide) e, p⟩
  by_cases g9 : x = 9
  · obtain ⟨σf, e, p⟩ := w_577 hI h9 hX hi hL (i_tie hI) hk2
    exact ⟨σf, e_table (off := 537) (t := 577) d_273_40 (by rw [g9]; decide +kernel) (by decide) e, p⟩
  by_cases g10 : x = 10
  · obtain ⟨σf, e, p⟩ := w_614 hI h9 hX hi hL (i_mend hI) hk2
    exact ⟨σf, e_table (off := 574) (t := 614) d_273_40 (by rw [g10]; decide +kernel) (by decide) e, p⟩
  by_cases g11 : x = 11
  · obtain ⟨σf, e, p⟩ := w_627 hI h9 hX hi hL (i_go hI) hk2
    exact ⟨σf, e_table (off := 587) (t := 627) d_273_40 (by rw [g11]; decide +kernel) (by decide) e, p⟩
  by_cases g12 : x = 12
  · obtain ⟨σf, e, p⟩ := w_652 hI h9 hX hi hL ((q_ahead hI.1).st hI) hk2
    exact ⟨σf, e_table (off := 612) (t := 652) d_273_40 (by rw [g12]; decide +kernel) (by decide) e, p⟩
  by_cases g13 : x = 13
  · obtain ⟨σf, e, p⟩ := w_689 hI h9 hX hi hL ((q_dark hI.1).st hI) hk2
    exact ⟨σf, e_table (off := 649) (t := 689) d_273_40 (by rw [g13]; decide +kernel) (by decide) e, p⟩
  by_cases g14 : x = 14
  · obtain ⟨σf, e, p⟩ := w_714 hI h9 hX hi hL ((q_ways hI.1).st hI) hk2
    exact ⟨σf, e_table (off := 674) (t := 714) d_273_40 (by rw [g14]; decide +kernel) (by decide) e, p⟩
  by_cases g15 : x = 15
  · obtain ⟨σf, e, p⟩ := w_739 hI h9 hX hi hL ((q_fewest hI.1).st hI) hk2
    exact ⟨σf, e_table (off := 699) (t := 739) d_273_40 (by rw [g15]; decide +kernel) (by decide) e, p⟩
  by_cases g16 : x = 16
  · obtain ⟨σf, e, p⟩ := w_764 hI h9 hX hi hL ((q_cheapest hI.1).st hI) hk2
    exact ⟨σf, e_table (off := 724) (t := 764) d_273_40 (by rw [g16]; decide +kernel) (by decide) e, p⟩
  by_cases g17 : x = 17
  · obtain ⟨σf, e, p⟩ := w_801 hI h9 hX hi hL ((q_must hI.1).st hI) hk2
    exact ⟨σf, e_table (off := 761) (t := 801) d_273_40 (by rw [g17]; decide +kernel) (by decide) e, p⟩
  by_cases g18 : x = 18
  · obtain ⟨σf, e, p⟩ := w_838 hI h9 hX hi hL ((q_rank hI.1).st hI) hk2
    exact ⟨σf, e_table (off := 798) (t := 838) d_273_40 (by rw [g18]; decide +kernel) (by decide) e, p⟩
  by_cases g19 : x = 19
  · obtain ⟨σf, e, p⟩ := w_851 hI h9 hX hi hL ((q_basis hI.1).st hI) hk2
    exact ⟨σf, e_table (off := 811) (t := 851) d_273_40 (by rw [g19]; decide +kernel) (by decide) e, p⟩
  by_cases g20 : x = 20
  · obtain ⟨σf, e, p⟩ := w_864 hI h9 hX hi hL ((q_sumOf hI.1).st hI) hk2
    exact ⟨σf, e_table (off := 824) (t := 864) d_273_40 (by rw [g20]; decide +kernel) (by decide) e, p⟩
  by_cases g21 : x = 21
  · obtain ⟨σf, e, p⟩ := w_889 hI h9 hX hi hL ((q_silent hI.1).st hI) hk2
    exact ⟨σf, e_table (off := 849) (t := 889) d_273_40 (by rw [g21]; decide +kernel) (by decide) e, p⟩
  by_cases g22 : x = 22
  · obtain ⟨σf, e, p⟩ := w_914 hI h9 hX hi hL ((q_darkest hI.1).st hI) hk2
    exact ⟨σf, e_table (off := 874) (t := 914) d_273_40 (by rw [g22]; decide +kernel) (by decide) e, p⟩
  by_cases g23 : x = 23
  · obtain ⟨σf, e, p⟩ := w_939 hI h9 hX hi hL ((q_twins hI.1).st hI) hk2
    exact ⟨σf, e_table (off := 899) (t := 939) d_273_40 (by rw [g23]; decide +kernel) (by decide) e, p⟩
  by_cases g24 : x = 24
  · obtain ⟨σf, e, p⟩ := w_964 hI h9 hX hi hL ((q_fixed hI.1).st hI) hk2
    exact ⟨σf, e_table (off := 924) (t := 964) d_273_40 (by rw [g24]; decide +kernel) (by decide) e, p⟩
  by_cases g25 : x = 25
  · obtain ⟨σf, e, p⟩ := w_977 hI h9 hX hi hL ((q_knot hI.1).st hI) hk2
    exact ⟨σf, e_table (off := 937) (t := 977) d_273_40 (by rw [g25]; decide +kernel) (by decide) e, p⟩
  by_cases g26 : x = 26
  · obtain ⟨σf, e, p⟩ := w_1002 hI h9 hX hi hL ((q_apart hI.1).st hI) hk2
    exact ⟨σf, e_table (off := 962) (t := 1002) d_273_40 (by rw [g26]; decide +kernel) (by decide) e, p⟩
  by_cases g27 : x = 27
  · obtain ⟨σf, e, p⟩ := w_1039 hI h9 hX hi hL ((q_evenings hI.1).st hI) hk2
    exact ⟨σf, e_table (off := 999) (t := 1039) d_273_40 (by rw [g27]; decide +kernel) (by decide) e, p⟩
  by_cases g28 : x = 28
  · obtain ⟨σf, e, p⟩ := w_1064 hI h9 hX hi hL ((q_game hI.1).st hI) hk2
    exact ⟨σf, e_table (off := 1024) (t := 1064) d_273_40 (by rw [g28]; decide +kernel) (by decide) e, p⟩
  by_cases g29 : x = 29
  · obtain ⟨σf, e, p⟩ := w_1089 hI h9 hX hi hL ((q_holds hI.1).st hI) hk2
    exact ⟨σf, e_table (off := 1049) (t := 1089) d_273_40 (by rw [g29]; decide +kernel) (by decide) e, p⟩
  by_cases g30 : x = 30
  · have hw : ∃ σf, Ev 273 1127 [.ref 2000000, .ref 0, .ref 59, .ref 99, .int (nI i), z5, z6] [] σ (some (.int 1), σf) ∧ P σf := by
      by_cases he : xs (i + 3) = 0
      · exact w_1127_y hI h9 hX hi hL he (i_note (b := false) hI) hk2
      · exact w_1127_n hI h9 hX hi hL he (i_note (b := true) hI) hk2
    obtain ⟨σf, e, p⟩ := hw
    exact ⟨σf, e_table (off := 1087) (t := 1127) d_273_40 (by rw [g30]; decide +kernel) (by decide) e, p⟩
  by_cases g31 : x = 31
  · obtain ⟨σf, e, p⟩ := w_1192 hI h9 hX hi hL (i_strike hI) hk2
    exact ⟨σf, e_table (off := 1152) (t := 1192) d_273_40 (by rw [g31]; decide +kernel) (by decide) e, p⟩
  by_cases g32 : x = 32
  · obtain ⟨σf, e, p⟩ := w_1217 hI h9 hX hi hL (i_known hI) hk2
    exact ⟨σf, e_table (off := 1177) (t := 1217) d_273_40 (by rw [g32]; decide +kernel) (by decide) e, p⟩
  by_cases g33 : x = 33
  · obtain ⟨σf, e, p⟩ := w_1242 hI h9 hX hi hL ((i_fits hI).st hI) hk2
    exact ⟨σf, e_table (off := 1202) (t := 1242) d_273_40 (by rw [g33]; decide +kernel) (by decide) e, p⟩
  by_cases g34 : x = 34
  · obtain ⟨σf, e, p⟩ := w_1255 hI h9 hX hi hL ((i_rang hI).st hI) hk2
    exact ⟨σf, e_table (off := 1215) (t := 1255) d_273_40 (by rw [g34]; decide +kernel) (by decide) e, p⟩
  by_cases g35 : x = 35
  · obtain ⟨σf, e, p⟩ := w_1280 hI h9 hX hi hL ((i_ask hI).st hI) hk2
    exact ⟨σf, e_table (off := 1240) (t := 1280) d_273_40 (by rw [g35]; decide +kernel) (by decide) e, p⟩
  by_cases g36 : x = 36
  · obtain ⟨σf, e, p⟩ := w_1293 hI h9 hX hi hL (i_chance hI) hk2
    exact ⟨σf, e_table (off := 1253) (t := 1293) d_273_40 (by rw [g36]; decide +kernel) (by decide) e, p⟩
  by_cases g37 : x = 37
  · obtain ⟨σf, e, p⟩ := w_1342 hI h9 hX hi hL ((q_tried hI.1).st hI) hk2
    exact ⟨σf, e_table (off := 1302) (t := 1342) d_273_40 (by rw [g37]; decide +kernel) (by decide) e, p⟩
  by_cases g38 : x = 38
  · obtain ⟨σf, e, p⟩ := w_1391 hI h9 hX hi hL (i_undo hI) hk2
    exact ⟨σf, e_table (off := 1351) (t := 1391) d_273_40 (by rw [g38]; decide +kernel) (by decide) e, p⟩
  by_cases g39 : x = 39
  · obtain ⟨σf, e, p⟩ := w_1404 hI h9 hX hi hL (i_keep hI) hk2
    exact ⟨σf, e_table (off := 1364) (t := 1404) d_273_40 (by rw [g39]; decide +kernel) (by decide) e, p⟩
  by_cases g40 : x = 40
  · obtain ⟨σf, e, p⟩ := w_1417 hI h9 hX hi hL (i_back hI) hk2
    exact ⟨σf, e_table (off := 1377) (t := 1417) d_273_40 (by rw [g40]; decide +kernel) (by decide) e, p⟩
  by_cases g41 : x = 41
  · obtain ⟨σf, e, p⟩ := w_1430 hI h9 hX hi hL ((i_count hI).st hI) hk2
    exact ⟨σf, e_table (off := 1390) (t := 1430) d_273_40 (by rw [g41]; decide +kernel) (by decide) e, p⟩
  obtain ⟨σf, e, p⟩ := hk2 t σ D H hI h9 hX rfl
  exact ⟨σf, e_table (off := 1415) (t := 1455) d_273_40 (sw_273_40 g0 g1 g2 g3 g4 g5 g6 g7 g8 g9 g10 g11 g12 g13 g14 g15 g16 g17 g18 g19 g20 g21 g22 g23 g24 g25 g26 g27 g28 g29 g30 g31 g32 g33 g34 g35 g36 g37 g38 g39 g40 g41) (by decide) e, p⟩
end XB2
