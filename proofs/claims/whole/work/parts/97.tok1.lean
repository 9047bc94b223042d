/-! ===== the two strings ===== -/
theorem pF_13_9 : fld 13 9 = some (20, 0, 2) := by decide +kernel
theorem pF_13_15 : fld 13 15 = some (20, 1, 0) := by decide +kernel
theorem kc_290_3 : callT (oM 290) 9 = some (6, 0, 2) := by decide +kernel
theorem kd_290_3 : 4 ≤ frM 290 ∧ 120 ≤ loM 290 := by decide +kernel
theorem okr_z {j a : Nat} {as : List Value} {σ : Mm} (hs : stM j = false) (ho : oM j = 13) (ha : a = 1000000 ∨ a = 1000001) (hx : (lsO (.ref a :: as)).length ≤ xM j) (hv : as.all okv = true) : okr j (.ref a :: as) σ = true := by
  unfold okr
  have h1 : (Value.ref a :: as).all okv = true := hv
  rw [hs, h1, ho]
  rcases ha with rfl | rfl <;> simp [hx]
theorem in126 {i : Nat} (h : i < 126) : inb (nI i) 126 = true := inb_nI h (by decide)
theorem in10 {i : Nat} (h : i < 10) : inb (nI i) 10 = true := inb_nI h (by decide)
section Str
variable {t : Nat} {σ : Mm}
theorem rdB_0 {i : Nat} (hS : Sg t σ) (h : i < 126) : rdB σ 1000010 (nI i) = some (sbyt 0 i) := by
  unfold rdB
  rw [sc_none hS (by decide)]
  show (if (1000010 : Nat) = 1000010 ∧ inb (nI i) 126 = true then _ else _) = _
  rw [if_pos ⟨rfl, in126 h⟩, nI_clamp (by omega)]
theorem rdB_1 {i : Nat} (hS : Sg t σ) (h : i < 10) : rdB σ 1000011 (nI i) = some (sbyt 1 i) := by
  unfold rdB
  rw [sc_none hS (by decide)]
  show (if (1000011 : Nat) = 1000010 ∧ inb (nI i) 126 = true then _ else if (1000011 : Nat) = 1000011 ∧ inb (nI i) 10 = true then _ else _) = _
  rw [if_neg (fun z => absurd z.1 (by decide)), if_pos ⟨rfl, in10 h⟩, nI_clamp (by omega)]
theorem alen_0 (hS : Sg t σ) : alen σ 1000010 = some 126 := by
  unfold alen
  rw [sc_none hS (by decide)]
  rfl
theorem alen_1 (hS : Sg t σ) : alen σ 1000011 = some 10 := by
  unfold alen
  rw [sc_none hS (by decide)]
  rfl
theorem c_286 {a : Nat} (ha : a = 1000000 ∨ a = 1000001) : Cl 286 [.ref a] σ (some (.int 0), σ) := by
  refine ⟨okr_z (by decide +kernel) oo_286 ha (by rw [xx_286]; exact Nat.le_of_ble_eq_true rfl) rfl, ?_⟩
  rw [xx_286]
  show Ev 286 0 [.ref a] [] σ _
  refine e_getstatic d_286_0 oo_286 rfl ?_
  refine e_if_eq (t := 13) d_286_3 (by decide) rfl (fun hc => absurd hc (by decide)) (fun hc => ?_)
  refine e_aload_n d_286_6 rfl rfl ?_
  refine e_getS1 d_286_7 oo_286 pF_13_15 ha rfl ?_
  refine e_goto (t := 14) d_286_10 (by decide) ?_
  exact e_bret d_286_14 rr_286 (by decide)
theorem c_287 {a : Nat} (ha : a = 1000000 ∨ a = 1000001) : Cl 287 [.ref a] σ (some (.int 1), σ) := by
  refine ⟨okr_z (by decide +kernel) oo_287 ha (by rw [xx_287]; exact Nat.le_of_ble_eq_true rfl) rfl, ?_⟩
  rw [xx_287]
  show Ev 287 0 [.ref a] [] σ _
  refine e_getstatic d_287_0 oo_287 rfl ?_
  refine e_if_eq (t := 17) d_287_3 (by decide) rfl (fun hc => absurd hc (by decide)) (fun hc => ?_)
  refine e_aload_n d_287_6 rfl rfl ?_
  refine e_getS1 d_287_7 oo_287 pF_13_15 ha rfl ?_
  refine e_if_ne (t := 17) d_287_10 (by decide) rfl (fun hc => absurd rfl hc) (fun hc => ?_)
  refine e_iconst d_287_13 ci_1 rfl ?_
  refine e_goto (t := 18) d_287_14 (by decide) ?_
  exact e_zret d_287_18 rr_287 (Or.inr rfl)
theorem c_282 {a m : Nat} (ha : a = 1000000 ∨ a = 1000001) (hm : alen σ (a + 10) = some m) (hv : Int32.ofNat m >>> (0 &&& 31) = Int32.ofNat m) : Cl 282 [.ref a] σ (some (.int (Int32.ofNat m)), σ) := by
  refine ⟨okr_z (by decide +kernel) oo_282 ha (by rw [xx_282]; exact Nat.le_of_ble_eq_true rfl) rfl, ?_⟩
  rw [xx_282]
  show Ev 282 0 [.ref a] [] σ _
  refine e_aload_n d_282_0 rfl rfl ?_
  refine e_getS0 d_282_1 oo_282 pF_13_9 ha rfl ?_
  refine e_alen d_282_4 hm rfl rfl ?_
  refine e_aload_n d_282_5 rfl rfl ?_
  refine e_vcall (w1 := (some (.int 0), σ)) d_282_6 kc_282_6 rfl ⟨Nat.le_of_ble_eq_true rfl, xx_282.symm⟩ rfl (c_286 ha) ?_
  show Ev 282 9 [.ref a] [.int 0, .int (Int32.ofNat m)] σ _
  refine e_ishr d_282_9 rfl ?_
  rw [hv]
  exact e_iret d_282_10 rr_282
theorem c_282w (hS : Sg t σ) : Cl 282 [.ref 1000000] σ (some (.int 126), σ) := c_282 (Or.inl rfl) (alen_0 hS) (by decide +kernel)
theorem c_282s (hS : Sg t σ) : Cl 282 [.ref 1000001] σ (some (.int 10), σ) := c_282 (Or.inr rfl) (alen_1 hS) (by decide +kernel)
def chr0 (i : Nat) : Nat := (sbyt 0 i).toNatClampNeg
theorem chr0_ok : ∀ i, i < 126 → ((sbyt 0 i &&& 255).toUInt32 % 65536).toInt32 = nI (chr0 i) ∧ ((nI (chr0 i)).toUInt32 % 65536).toInt32 = nI (chr0 i) := by decide +kernel
theorem c_290 {i : Nat} (hS : Sg t σ) (h : i < 126) : Cl 290 [.ref 1000010, .int (nI i)] σ (some (.int (nI (chr0 i))), σ) := by
  refine ⟨okr_s (by decide +kernel) (by rw [xx_290]; exact Nat.le_of_ble_eq_true rfl) rfl, ?_⟩
  rw [xx_290]
  show Ev 290 0 [.ref 1000010, .int (nI i)] [] σ _
  refine e_iload_n d_290_0 rfl rfl ?_
  refine e_aload_n d_290_1 rfl rfl ?_
  refine e_alen d_290_2 (alen_0 hS) rfl rfl ?_
  refine e_chk d_290_3 kc_290_3 kd_290_3 ⟨Nat.le_of_ble_eq_true rfl, xx_290.symm⟩ ⟨nI_pos' (by omega), nI_lt (b := 126) h (by decide)⟩ rfl ?_
  refine e_aload_n d_290_6 rfl rfl ?_
  refine e_iload_n d_290_7 rfl rfl ?_
  refine e_baload d_290_8 (rdB_0 hS h) rfl ?_
  refine e_sipush d_290_9 cs_255 rfl ?_
  refine e_iand d_290_12 rfl ?_
  refine e_i2c d_290_13 rfl ?_
  rw [(chr0_ok i h).1]
  exact e_cret d_290_14 rr_290 (chr0_ok i h).2
theorem c_283 {i : Nat} (hS : Sg t σ) (h : i < 126) : Cl 283 [.ref 1000000, .int (nI i)] σ (some (.int (nI (chr0 i))), σ) := by
  refine ⟨okr_z (by decide +kernel) oo_283 (Or.inl rfl) (by rw [xx_283]; exact Nat.le_of_ble_eq_true rfl) rfl, ?_⟩
  rw [xx_283]
  show Ev 283 0 [.ref 1000000, .int (nI i)] [] σ _
  refine e_aload_n d_283_0 rfl rfl ?_
  refine e_vcall (w1 := (some (.int 1), σ)) d_283_1 kc_283_1 rfl ⟨Nat.le_of_ble_eq_true rfl, xx_283.symm⟩ rfl (c_287 (Or.inl rfl)) ?_
  show Ev 283 4 [.ref 1000000, .int (nI i)] [.int 1] σ _
  refine e_if_eq (t := 16) d_283_4 (by decide) rfl (fun hc => absurd hc (by decide)) (fun hc => ?_)
  refine e_aload_n d_283_7 rfl rfl ?_
  refine e_getS0 d_283_8 oo_283 pF_13_9 (Or.inl rfl) rfl ?_
  refine e_iload_n d_283_11 rfl rfl ?_
  refine e_scall (w1 := (some (.int (nI (chr0 i))), σ)) d_283_12 kc_283_12 rfl ⟨Nat.le_of_ble_eq_true rfl, xx_283.symm⟩ rfl (c_290 hS h) ?_
  show Ev 283 15 [.ref 1000000, .int (nI i)] [.int (nI (chr0 i))] σ _
  exact e_cret d_283_15 rr_283 (chr0_ok i h).2
theorem c_291 {b : Nat} (h : b < 256) : Cl 291 [.int (nI b)] σ (some (.int 1), σ) := by
  refine ⟨okr_s (by decide +kernel) (by rw [xx_291]; exact Nat.le_of_ble_eq_true rfl) rfl, ?_⟩
  rw [xx_291]
  show Ev 291 0 [.int (nI b)] [] σ _
  refine e_iload_n d_291_0 rfl rfl ?_
  refine e_if_lt (t := 15) d_291_1 (by decide) rfl (fun hc => absurd hc (nI_pos (by omega))) (fun hc => ?_)
  refine e_iload_n d_291_4 rfl rfl ?_
  refine e_sipush d_291_5 cs_255 rfl ?_
  refine e_icmp_gt (t := 15) d_291_8 (by decide) rfl (fun hc => absurd hc (nI_nlt (a := 255) (b := b) (by omega) (by decide))) (fun hc => ?_)
  refine e_iconst d_291_11 ci_1 rfl ?_
  refine e_goto (t := 16) d_291_12 (by decide) ?_
  exact e_zret d_291_16 rr_291 (Or.inr rfl)
def sPr (b k : Nat) : Bool := decide (sbyt 1 k = (nI b).toInt8.toInt32)
/-- where a sign stands -/
def sIx (b : Nat) : Int32 := if fa_first (sPr b) 10 < 10 then nI (fa_first (sPr b) 10) else -1
theorem c_293 {b : Nat} (hS : Sg t σ) : Cl 293 [.ref 1000011, .int (nI b), .int 0, .int 10] σ (some (.int (sIx b)), σ) := by
  refine ⟨okr_s (by decide +kernel) (by rw [xx_293]; exact Nat.le_of_ble_eq_true rfl) rfl, ?_⟩
  rw [xx_293]
  show Ev 293 0 [.ref 1000011, .int (nI b), .int 0, .int 10, .retAddr 0, .retAddr 0] [] σ _
  refine e_iload_n d_293_0 rfl rfl ?_
  refine e_i2b d_293_1 rfl ?_
  refine e_istore (ls2 := [.ref 1000011, .int (nI b), .int 0, .int 10, .int (nI b).toInt8.toInt32, .retAddr 0]) d_293_2 rfl rfl rfl ?_
  refine e_iload_n d_293_4 rfl rfl ?_
  refine e_istore (ls2 := [.ref 1000011, .int (nI b), .int 0, .int 10, .int (nI b).toInt8.toInt32, .int 0]) d_293_5 rfl rfl rfl ?_
  have main : ∀ k, k ≤ 10 → (∀ j, j < k → sPr b j = false) → Ev 293 7 [.ref 1000011, .int (nI b), .int 0, .int 10, .int (nI b).toInt8.toInt32, .int (nI k)] [] σ (some (.int (sIx b)), σ) := by
    refine up_to (fun k => (∀ j, j < k → sPr b j = false) → Ev 293 7 [.ref 1000011, .int (nI b), .int 0, .int 10, .int (nI b).toInt8.toInt32, .int (nI k)] [] σ (some (.int (sIx b)), σ)) 10 ?_ ?_
    · intro k hk ih hn
      refine e_iload d_293_7 rfl rfl ?_
      refine e_iload_n d_293_9 rfl rfl ?_
      refine e_icmp_ge (t := 31) d_293_10 (by decide) rfl (fun hc => absurd (nI_lt (b := 10) hk (by decide)) hc) (fun hc => ?_)
      refine e_aload_n d_293_13 rfl rfl ?_
      refine e_iload d_293_14 rfl rfl ?_
      refine e_baload d_293_16 (rdB_1 hS hk) rfl ?_
      refine e_iload d_293_17 rfl rfl ?_
      refine e_icmp_ne (t := 25) d_293_19 (by decide) rfl (fun hc => ?_) (fun hc => ?_)
      · refine e_iinc (ls2 := [.ref 1000011, .int (nI b), .int 0, .int 10, .int (nI b).toInt8.toInt32, .int (nI k + 1)]) d_293_25 rfl ci_1 rfl rfl rfl ?_
        refine e_goto (t := 7) d_293_28 (by decide) ?_
        rw [nI_1]
        refine ih (fun j hj => ?_)
        rcases Nat.lt_or_ge j k with g | g
        · exact hn j g
        · have : j = k := by omega
          rw [this]
          exact decide_eq_false hc
      · refine e_iload d_293_22 rfl rfl ?_
        have e : sIx b = nI k := by
          unfold sIx
          rw [first_is hk (decide_eq_true hc) hn, if_pos hk]
        rw [e]
        exact e_iret d_293_24 rr_293
    · intro hn
      refine e_iload d_293_7 rfl rfl ?_
      refine e_iload_n d_293_9 rfl rfl ?_
      refine e_icmp_ge (t := 31) d_293_10 (by decide) rfl (fun hc => ?_) (fun hc => absurd hc (by decide))
      refine e_iconst d_293_31 ci_m1 rfl ?_
      have e : sIx b = -1 := by
        unfold sIx
        rw [first_end hn]
        rfl
      rw [e]
      exact e_iret d_293_32 rr_293
  exact main 0 (by decide) (fun j hj => absurd hj (Nat.not_lt_zero j))
theorem c_292 {b : Nat} (hS : Sg t σ) (h : b < 256) : Cl 292 [.ref 1000011, .int (nI b), .int 0, .int 10] σ (some (.int (sIx b)), σ) := by
  refine ⟨okr_s (by decide +kernel) (by rw [xx_292]; exact Nat.le_of_ble_eq_true rfl) rfl, ?_⟩
  rw [xx_292]
  show Ev 292 0 [.ref 1000011, .int (nI b), .int 0, .int 10] [] σ _
  refine e_iload_n d_292_0 rfl rfl ?_
  refine e_scall (w1 := (some (.int 1), σ)) d_292_1 kc_292_1 rfl ⟨Nat.le_of_ble_eq_true rfl, xx_292.symm⟩ rfl (c_291 h) ?_
  show Ev 292 4 [.ref 1000011, .int (nI b), .int 0, .int 10] [.int 1] σ _
  refine e_if_ne (t := 9) d_292_4 (by decide) rfl (fun hc => ?_) (fun hc => absurd hc (by decide))
  refine e_iload_n d_292_9 rfl rfl ?_
  refine e_iconst d_292_10 ci_0 rfl ?_
  refine e_scall (w1 := (some (.int 0), σ)) d_292_11 kc_292_11 rfl ⟨Nat.le_of_ble_eq_true rfl, xx_292.symm⟩ rfl (c_278 (x := 0) (y := 0) hS) ?_
  show Ev 292 14 [.ref 1000011, .int (nI b), .int 0, .int 10] [.int 0] σ _
  refine e_istore_n (ls2 := [.ref 1000011, .int (nI b), .int 0, .int 10]) d_292_14 rfl rfl rfl ?_
  refine e_iload_n d_292_15 rfl rfl ?_
  refine e_aload_n d_292_16 rfl rfl ?_
  refine e_alen d_292_17 (alen_1 hS) rfl rfl ?_
  refine e_scall (w1 := (some (.int 10), σ)) d_292_18 kc_292_18 rfl ⟨Nat.le_of_ble_eq_true rfl, xx_292.symm⟩ rfl (c_280 (x := 10) (y := 10) hS) ?_
  show Ev 292 21 [.ref 1000011, .int (nI b), .int 0, .int 10] [.int 10] σ _
  refine e_istore_n (ls2 := [.ref 1000011, .int (nI b), .int 0, .int 10]) d_292_21 rfl rfl rfl ?_
  refine e_iload_n d_292_22 rfl rfl ?_
  refine e_iload_n d_292_23 rfl rfl ?_
  refine e_icmp_lt (t := 29) d_292_24 (by decide) rfl (fun hc => ?_) (fun hc => absurd (by decide) hc)
  refine e_aload_n d_292_29 rfl rfl ?_
  refine e_iload_n d_292_30 rfl rfl ?_
  refine e_iload_n d_292_31 rfl rfl ?_
  refine e_iload_n d_292_32 rfl rfl ?_
  refine e_scall (w1 := (some (.int (sIx b)), σ)) d_292_33 kc_292_33 rfl ⟨Nat.le_of_ble_eq_true rfl, xx_292.symm⟩ rfl (c_293 hS) ?_
  show Ev 292 36 [.ref 1000011, .int (nI b), .int 0, .int 10] [.int (sIx b)] σ _
  exact e_iret d_292_36 rr_292
theorem c_285 {b : Nat} (hS : Sg t σ) (h : b < 256) : Cl 285 [.ref 1000001, .int (nI b), .int 0] σ (some (.int (sIx b)), σ) := by
  refine ⟨okr_z (by decide +kernel) oo_285 (Or.inr rfl) (by rw [xx_285]; exact Nat.le_of_ble_eq_true rfl) rfl, ?_⟩
  rw [xx_285]
  show Ev 285 0 [.ref 1000001, .int (nI b), .int 0] [] σ _
  refine e_aload_n d_285_0 rfl rfl ?_
  refine e_vcall (w1 := (some (.int 1), σ)) d_285_1 kc_285_1 rfl ⟨Nat.le_of_ble_eq_true rfl, xx_285.symm⟩ rfl (c_287 (Or.inr rfl)) ?_
  show Ev 285 4 [.ref 1000001, .int (nI b), .int 0] [.int 1] σ _
  refine e_if_eq (t := 23) d_285_4 (by decide) rfl (fun hc => absurd hc (by decide)) (fun hc => ?_)
  refine e_aload_n d_285_7 rfl rfl ?_
  refine e_getS0 d_285_8 oo_285 pF_13_9 (Or.inr rfl) rfl ?_
  refine e_iload_n d_285_11 rfl rfl ?_
  refine e_iload_n d_285_12 rfl rfl ?_
  refine e_aload_n d_285_13 rfl rfl ?_
  refine e_vcall (w1 := (some (.int 10), σ)) d_285_14 kc_285_14 rfl ⟨Nat.le_of_ble_eq_true rfl, xx_285.symm⟩ rfl (c_282s hS) ?_
  show Ev 285 17 [.ref 1000001, .int (nI b), .int 0] [.int 10, .int 0, .int (nI b), .ref 1000011] σ _
  refine e_scall (w1 := (some (.int (sIx b)), σ)) d_285_17 kc_285_17 rfl ⟨Nat.le_of_ble_eq_true rfl, xx_285.symm⟩ rfl (c_292 hS h) ?_
  show Ev 285 20 [.ref 1000001, .int (nI b), .int 0] [.int (sIx b)] σ _
  refine e_goto (t := 36) d_285_20 (by decide) ?_
  exact e_iret d_285_36 rr_285
theorem c_284 {b : Nat} (hS : Sg t σ) (h : b < 256) : Cl 284 [.ref 1000001, .int (nI b)] σ (some (.int (sIx b)), σ) := by
  refine ⟨okr_z (by decide +kernel) oo_284 (Or.inr rfl) (by rw [xx_284]; exact Nat.le_of_ble_eq_true rfl) rfl, ?_⟩
  rw [xx_284]
  show Ev 284 0 [.ref 1000001, .int (nI b)] [] σ _
  refine e_aload_n d_284_0 rfl rfl ?_
  refine e_iload_n d_284_1 rfl rfl ?_
  refine e_iconst d_284_2 ci_0 rfl ?_
  refine e_vcall (w1 := (some (.int (sIx b)), σ)) d_284_3 kc_284_3 rfl ⟨Nat.le_of_ble_eq_true rfl, xx_284.symm⟩ rfl (c_285 hS h) ?_
  show Ev 284 6 [.ref 1000001, .int (nI b)] [.int (sIx b)] σ _
  exact e_iret d_284_6 rr_284
end Str
theorem chr_w : ∀ k, k < 21 → ∀ j, j < 6 → (chr0 (6 * k + j) = 32 ∧ wdd k j = 0) ∨ (¬ chr0 (6 * k + j) = 32 ∧ 97 ≤ chr0 (6 * k + j) ∧ chr0 (6 * k + j) < 128 ∧ chr0 (6 * k + j) - 96 = wdd k j) := by decide +kernel
theorem wdd_lt : ∀ k, k < 21 → ∀ j, j < 6 → wdd k j < 32 := by decide +kernel
theorem wq_lt : ∀ k, k < 21 → ∀ j, j < 6 → wq k j < 2 ^ 25 := by decide +kernel
theorem byte_c : ∀ b, b < 256 → ((nI b).toUInt32 % 65536).toInt32 = nI b := by decide +kernel
theorem sIx_k : ∀ b, b < 256 → ((sIx b < 0 ∧ kSg b = 1) ∨ (¬ sIx b < 0 ∧ 31 + sIx b = nI (kSg b))) := by decide +kernel
