/-! ===== a sum is read, second side ===== -/
theorem b_184_z {t : Nat} {σ : Mm} {w : Option Value × Mm} {x1 : Int32} {z2 z3 z4 : Value} (hS : Sg t σ) 
    (H : (0 < (mI σ 59 40) → (inb ((mI σ 59 40) - 1) 96 = true ∧ (∃ (v3 : Int32) (σ1 : Mm), Cl 181 [.int (mI σ 78 ((mI σ 59 40) - 1).toNatClampNeg)] σ (some (.int v3), σ1) ∧ Sg t σ1 ∧ ((v3 < x1 → (w = (none, σ1))) ∧ (¬ (v3 < x1) → (inb (mI (uI σ1 59 40 ((mI σ1 59 40) - 1)) 59 40) 96 = true ∧ (((mI (uI σ1 59 40 ((mI σ1 59 40) - 1)) 78 (mI (uI σ1 59 40 ((mI σ1 59 40) - 1)) 59 40).toNatClampNeg) = 2 → (∃ (v15 : Int32) (σ13 : Mm), Cl 183 [.ref 59] (uI σ1 59 40 ((mI σ1 59 40) - 1)) (some (.int v15), σ13) ∧ Sg t σ13 ∧ (∃ (σ16 : Mm), Cl 182 [.ref 59, .int (mI (uI σ1 59 40 ((mI σ1 59 40) - 1)) 78 (mI (uI σ1 59 40 ((mI σ1 59 40) - 1)) 59 40).toNatClampNeg), .int v15, .int (-1)] σ13 (none, σ16) ∧ Sg t σ16 ∧ Ev 184 0 [.ref 59, .int x1, .int (mI (uI σ1 59 40 ((mI σ1 59 40) - 1)) 78 (mI (uI σ1 59 40 ((mI σ1 59 40) - 1)) 59 40).toNatClampNeg), .int (-1), .int v15] [] σ16 w))) ∧ (¬ ((mI (uI σ1 59 40 ((mI σ1 59 40) - 1)) 78 (mI (uI σ1 59 40 ((mI σ1 59 40) - 1)) 59 40).toNatClampNeg) = 2) → (∃ (v6 : Int32) (σ4 : Mm), Cl 183 [.ref 59] (uI σ1 59 40 ((mI σ1 59 40) - 1)) (some (.int v6), σ4) ∧ Sg t σ4 ∧ (∃ (v9 : Int32) (σ7 : Mm), Cl 183 [.ref 59] σ4 (some (.int v9), σ7) ∧ Sg t σ7 ∧ (∃ (σ10 : Mm), Cl 182 [.ref 59, .int (mI (uI σ1 59 40 ((mI σ1 59 40) - 1)) 78 (mI (uI σ1 59 40 ((mI σ1 59 40) - 1)) 59 40).toNatClampNeg), .int v9, .int v6] σ7 (none, σ10) ∧ Sg t σ10 ∧ Ev 184 0 [.ref 59, .int x1, .int (mI (uI σ1 59 40 ((mI σ1 59 40) - 1)) 78 (mI (uI σ1 59 40 ((mI σ1 59 40) - 1)) 59 40).toNatClampNeg), .int v6, .int v9] [] σ10 w))))))))))) ∧ (¬ (0 < (mI σ 59 40)) → (w = (none, σ)))) :
    Ev 184 0 [.ref 59, .int x1, z2, z3, z4] [] σ w := by
  refine e_aload_n d_184_0 rfl rfl ?_
  refine e_getI d_184_1 oo_184 pF_9_289 (by decide) (hS.k rfl) rfl ?_
  refine e_if_le (t := 76) d_184_4 (by decide) rfl (fun hc => ?_) (fun hc => ?_)
  · replace H := H.2 hc
    subst H
    exact e_vret d_184_76 rr_184
  · replace H := H.1 hc
    refine e_aload_n d_184_7 rfl rfl ?_
    refine e_getR d_184_8 oo_184 pF_9_69 (by decide) (hS.k rfl) (hS.r rt_59_38) rfl ?_
    refine e_aload_n d_184_11 rfl rfl ?_
    refine e_getI d_184_12 oo_184 pF_9_289 (by decide) (hS.k rfl) rfl ?_
    refine e_iconst d_184_15 ci_1 rfl ?_
    refine e_isub d_184_16 rfl ?_
    obtain ⟨hb, H⟩ := H
    refine e_iaload (v := (mI σ 78 ((mI σ 59 40) - 1).toNatClampNeg)) d_184_17 (rdI_at (hS.k rfl) hb) rfl ?_
    obtain ⟨v3, σ1, hcl, hS2, H⟩ := H
    refine e_scall (w1 := (some (.int v3), σ1)) d_184_18 kc_184_18 rfl ⟨Nat.le_of_ble_eq_true rfl, xx_184.symm⟩ rfl hcl ?_
    show Ev 184 21 [.ref 59, .int x1, z2, z3, z4] [.int v3] σ1 w
    refine e_iload_n d_184_21 rfl rfl ?_
    refine e_icmp_lt (t := 76) d_184_22 (by decide) rfl (fun hc => ?_) (fun hc => ?_)
    · replace H := H.1 hc
      subst H
      exact e_vret d_184_76 rr_184
    · replace H := H.2 hc
      refine e_aload_n d_184_25 rfl rfl ?_
      refine e_dup d_184_26 rfl rfl ?_
      refine e_getI d_184_27 oo_184 pF_9_289 (by decide) (hS2.k rfl) rfl ?_
      refine e_iconst d_184_30 ci_1 rfl ?_
      refine e_isub d_184_31 rfl ?_
      refine e_putI d_184_32 oo_184 pF_9_289 (Or.inl rfl) (hS2.k rfl) rfl ?_
      refine e_aload_n d_184_35 rfl rfl ?_
      refine e_getR d_184_36 oo_184 pF_9_69 (by decide) (hS2.uI.k rfl) (hS2.uI.r rt_59_38) rfl ?_
      refine e_aload_n d_184_39 rfl rfl ?_
      refine e_getI d_184_40 oo_184 pF_9_289 (by decide) (hS2.uI.k rfl) rfl ?_
      obtain ⟨hb, H⟩ := H
      refine e_iaload (v := (mI (uI σ1 59 40 ((mI σ1 59 40) - 1)) 78 (mI (uI σ1 59 40 ((mI σ1 59 40) - 1)) 59 40).toNatClampNeg)) d_184_43 (rdI_at (hS2.uI.k rfl) hb) rfl ?_
      refine e_istore_n (ls2 := [.ref 59, .int x1, .int (mI (uI σ1 59 40 ((mI σ1 59 40) - 1)) 78 (mI (uI σ1 59 40 ((mI σ1 59 40) - 1)) 59 40).toNatClampNeg), z3, z4]) d_184_44 rfl rfl rfl ?_
      refine e_iload_n d_184_45 rfl rfl ?_
      refine e_iconst d_184_46 ci_2 rfl ?_
      refine e_icmp_ne (t := 54) d_184_47 (by decide) rfl (fun hc => ?_) (fun hc => ?_)
      · replace H := H.2 hc
        refine e_aload_n d_184_54 rfl rfl ?_
        obtain ⟨v6, σ4, hcl, hS5, H⟩ := H
        refine e_vcall (w1 := (some (.int v6), σ4)) d_184_55 kc_184_55 rfl ⟨Nat.le_of_ble_eq_true rfl, xx_184.symm⟩ rfl hcl ?_
        show Ev 184 58 [.ref 59, .int x1, .int (mI (uI σ1 59 40 ((mI σ1 59 40) - 1)) 78 (mI (uI σ1 59 40 ((mI σ1 59 40) - 1)) 59 40).toNatClampNeg), z3, z4] [.int v6] σ4 w
        refine e_istore_n (ls2 := [.ref 59, .int x1, .int (mI (uI σ1 59 40 ((mI σ1 59 40) - 1)) 78 (mI (uI σ1 59 40 ((mI σ1 59 40) - 1)) 59 40).toNatClampNeg), .int v6, z4]) d_184_58 rfl rfl rfl ?_
        refine e_aload_n d_184_59 rfl rfl ?_
        obtain ⟨v9, σ7, hcl, hS8, H⟩ := H
        refine e_vcall (w1 := (some (.int v9), σ7)) d_184_60 kc_184_60 rfl ⟨Nat.le_of_ble_eq_true rfl, xx_184.symm⟩ rfl hcl ?_
        show Ev 184 63 [.ref 59, .int x1, .int (mI (uI σ1 59 40 ((mI σ1 59 40) - 1)) 78 (mI (uI σ1 59 40 ((mI σ1 59 40) - 1)) 59 40).toNatClampNeg), .int v6, z4] [.int v9] σ7 w
        refine e_istore (ls2 := [.ref 59, .int x1, .int (mI (uI σ1 59 40 ((mI σ1 59 40) - 1)) 78 (mI (uI σ1 59 40 ((mI σ1 59 40) - 1)) 59 40).toNatClampNeg), .int v6, .int v9]) d_184_63 rfl rfl rfl ?_
        refine e_aload_n d_184_65 rfl rfl ?_
        refine e_iload_n d_184_66 rfl rfl ?_
        refine e_iload d_184_67 rfl rfl ?_
        refine e_iload_n d_184_69 rfl rfl ?_
        obtain ⟨σ10, hcl, hS11, H⟩ := H
        refine e_vcall (w1 := (none, σ10)) d_184_70 kc_184_70 rfl ⟨Nat.le_of_ble_eq_true rfl, xx_184.symm⟩ rfl hcl ?_
        show Ev 184 73 [.ref 59, .int x1, .int (mI (uI σ1 59 40 ((mI σ1 59 40) - 1)) 78 (mI (uI σ1 59 40 ((mI σ1 59 40) - 1)) 59 40).toNatClampNeg), .int v6, .int v9] [] σ10 w
        refine e_goto (t := 0) d_184_73 (by decide) ?_
        exact H
      · replace H := H.1 hc
        refine e_iconst d_184_50 ci_m1 rfl ?_
        refine e_goto (t := 58) d_184_51 (by decide) ?_
        refine e_istore_n (ls2 := [.ref 59, .int x1, .int (mI (uI σ1 59 40 ((mI σ1 59 40) - 1)) 78 (mI (uI σ1 59 40 ((mI σ1 59 40) - 1)) 59 40).toNatClampNeg), .int (-1), z4]) d_184_58 rfl rfl rfl ?_
        refine e_aload_n d_184_59 rfl rfl ?_
        obtain ⟨v15, σ13, hcl, hS14, H⟩ := H
        refine e_vcall (w1 := (some (.int v15), σ13)) d_184_60 kc_184_60 rfl ⟨Nat.le_of_ble_eq_true rfl, xx_184.symm⟩ rfl hcl ?_
        show Ev 184 63 [.ref 59, .int x1, .int (mI (uI σ1 59 40 ((mI σ1 59 40) - 1)) 78 (mI (uI σ1 59 40 ((mI σ1 59 40) - 1)) 59 40).toNatClampNeg), .int (-1), z4] [.int v15] σ13 w
        refine e_istore (ls2 := [.ref 59, .int x1, .int (mI (uI σ1 59 40 ((mI σ1 59 40) - 1)) 78 (mI (uI σ1 59 40 ((mI σ1 59 40) - 1)) 59 40).toNatClampNeg), .int (-1), .int v15]) d_184_63 rfl rfl rfl ?_
        refine e_aload_n d_184_65 rfl rfl ?_
        refine e_iload_n d_184_66 rfl rfl ?_
        refine e_iload d_184_67 rfl rfl ?_
        refine e_iload_n d_184_69 rfl rfl ?_
        obtain ⟨σ16, hcl, hS17, H⟩ := H
        refine e_vcall (w1 := (none, σ16)) d_184_70 kc_184_70 rfl ⟨Nat.le_of_ble_eq_true rfl, xx_184.symm⟩ rfl hcl ?_
        show Ev 184 73 [.ref 59, .int x1, .int (mI (uI σ1 59 40 ((mI σ1 59 40) - 1)) 78 (mI (uI σ1 59 40 ((mI σ1 59 40) - 1)) 59 40).toNatClampNeg), .int (-1), .int v15] [] σ16 w
        refine e_goto (t := 0) d_184_73 (by decide) ?_
        exact H
section TRs
variable {k v : Nat} {km wm : Int32}
theorem sm_inj : ∀ a, a < 44 → ∀ b, b < 44 → (31 ≤ a ∧ 31 ≤ b ∧ smC a = smC b ∧ smW a = smW b) → a = b := by decide +kernel
theorem sm_lt : ∀ a, a ≤ 43 → 31 ≤ a → smW a < 256 ∧ (smC a = false → smW a ≠ 37) ∧ (smC a = true → smW a ≤ 5) := by decide +kernel
theorem wx_tab : ∀ a, a ≤ 20 → wx a ≤ 20 ∧ wx (wx a) = a ∧ (14 ≤ a → wx a = a) ∧ (a ≤ 10 → wx a = a) ∧ (11 ≤ a → 11 ≤ wx a) ∧ (a < 14 → wx a < 14) := by decide +kernel
theorem TR.s4 {ch k0 : Nat} (h : TR k v km wm) (h31 : 31 ≤ k0) (h43 : k0 ≤ 43) (hC : smC k0 = false) (hW : smW k0 = ch) : (km = 4 ∧ wm = nI ch) ↔ k = k0 := by
  obtain ⟨l1, l2, _⟩ := sm_lt k0 h43 h31
  have l2 := l2 hC
  constructor
  · rintro ⟨a, b⟩
    rcases h with ⟨_, e⟩ | ⟨_, e | ⟨_, e⟩⟩ | ⟨_, e, _⟩ | ⟨_, e, _⟩ | ⟨_, _, e, _⟩ | ⟨g1, g2, e, e2⟩
    · rw [e] at a; exact absurd a (by decide)
    · rw [e] at a; exact absurd a (by decide)
    · rw [e] at b
      exact absurd ((nI_eq (a := 37) (b := ch) (by decide) (by omega)).mp b) (by omega)
    · rw [e] at a; exact absurd a (by decide)
    · rw [e] at a; exact absurd a (by decide)
    · rw [e] at a; exact absurd a (by decide)
    · obtain ⟨m1, m2, _⟩ := sm_lt k g2 g1
      have hk : smC k = false := by
        cases hk : smC k with
        | false => rfl
        | true => rw [e, hk] at a; exact absurd a (by decide)
      rw [e2] at b
      have := (nI_eq (by omega) (by omega)).mp b
      exact sm_inj k (by omega) k0 (by omega) ⟨g1, h31, by rw [hk, hC], by omega⟩
  · intro e
    subst e
    rcases h with ⟨g, _⟩ | ⟨g, _⟩ | ⟨g, _⟩ | ⟨g, _⟩ | ⟨_, g, _⟩ | ⟨g1, g2, e, e2⟩
    · omega
    · omega
    · omega
    · omega
    · omega
    · rw [e, e2, hC, hW]; exact ⟨rfl, rfl⟩
theorem TR.k1 {m : Nat} (h : TR k v km wm) (hm : m ≤ 20) : (km = 1 ∧ wm = nI m) ↔ k = 10 + wx m := by
  obtain ⟨w1, w2, _⟩ := wx_tab m hm
  constructor
  · rintro ⟨a, b⟩
    rcases h with ⟨_, e⟩ | ⟨_, e | ⟨e, _⟩⟩ | ⟨_, e, _⟩ | ⟨_, e, _⟩ | ⟨g1, g2, _, e2⟩ | ⟨g1, g2, e, _⟩
    · rw [e] at a; exact absurd a (by decide)
    · rw [e] at a; exact absurd a (by decide)
    · rw [e] at a; exact absurd a (by decide)
    · rw [e] at a; exact absurd a (by decide)
    · rw [e] at a; exact absurd a (by decide)
    · obtain ⟨u1, u2, _⟩ := wx_tab (k - 10) (by omega)
      rw [e2] at b
      have e3 := (nI_eq (by omega) (by omega)).mp b
      rw [e3] at u2
      omega
    · rw [e] at a
      cases hc : smC k with
      | true => rw [hc] at a; exact absurd a (by decide)
      | false => rw [hc] at a; exact absurd a (by decide)
  · intro e
    rcases h with ⟨g, _⟩ | ⟨g, _⟩ | ⟨g, _⟩ | ⟨g, _⟩ | ⟨g1, g2, e1, e2⟩ | ⟨g1, g2, _, _⟩
    · omega
    · omega
    · omega
    · omega
    · exact ⟨e1, by rw [e2, e, show 10 + wx m - 10 = wx m by omega, w2]⟩
    · omega
theorem TR.n3 (h : TR k v km wm) : km = 3 ↔ k = 2 := by
  rcases h with ⟨g, e⟩ | ⟨g, e | ⟨e, _⟩⟩ | ⟨g, e, _⟩ | ⟨g, e, _⟩ | ⟨g1, g2, e, _⟩ | ⟨g1, g2, e, _⟩
  · rw [e]; exact ⟨fun z => absurd z (by decide), fun z => by omega⟩
  · rw [e]; exact ⟨fun z => absurd z (by decide), fun z => by omega⟩
  · rw [e]; exact ⟨fun z => absurd z (by decide), fun z => by omega⟩
  · exact ⟨fun _ => g, fun _ => e⟩
  · rw [e]; exact ⟨fun z => absurd z (by decide), fun z => by omega⟩
  · rw [e]; exact ⟨fun z => absurd z (by decide), fun z => by omega⟩
  · refine ⟨fun z => ?_, fun z => by omega⟩
    rw [e] at z
    cases hc : smC k with
    | true => rw [hc] at z; exact absurd z (by decide)
    | false => rw [hc] at z; exact absurd z (by decide)
theorem TR.n2 (h : TR k v km wm) : km = 2 ↔ k = 3 := by
  rcases h with ⟨g, e⟩ | ⟨g, e | ⟨e, _⟩⟩ | ⟨g, e, _⟩ | ⟨g, e, _⟩ | ⟨g1, g2, e, _⟩ | ⟨g1, g2, e, _⟩
  · rw [e]; exact ⟨fun z => absurd z (by decide), fun z => by omega⟩
  · rw [e]; exact ⟨fun z => absurd z (by decide), fun z => by omega⟩
  · rw [e]; exact ⟨fun z => absurd z (by decide), fun z => by omega⟩
  · rw [e]; exact ⟨fun z => absurd z (by decide), fun z => by omega⟩
  · exact ⟨fun _ => g, fun _ => e⟩
  · rw [e]; exact ⟨fun z => absurd z (by decide), fun z => by omega⟩
  · refine ⟨fun z => ?_, fun z => by omega⟩
    rw [e] at z
    cases hc : smC k with
    | true => rw [hc] at z; exact absurd z (by decide)
    | false => rw [hc] at z; exact absurd z (by decide)
theorem TR.n0 (h : TR k v km wm) : km = 0 ↔ k = 0 := by
  rcases h with ⟨g, e⟩ | ⟨g, e | ⟨e, _⟩⟩ | ⟨g, e, _⟩ | ⟨g, e, _⟩ | ⟨g1, g2, e, _⟩ | ⟨g1, g2, e, _⟩
  · exact ⟨fun _ => g, fun _ => e⟩
  · rw [e]; exact ⟨fun z => absurd z (by decide), fun z => by omega⟩
  · rw [e]; exact ⟨fun z => absurd z (by decide), fun z => by omega⟩
  · rw [e]; exact ⟨fun z => absurd z (by decide), fun z => by omega⟩
  · rw [e]; exact ⟨fun z => absurd z (by decide), fun z => by omega⟩
  · rw [e]; exact ⟨fun z => absurd z (by decide), fun z => by omega⟩
  · refine ⟨fun z => ?_, fun z => by omega⟩
    rw [e] at z
    cases hc : smC k with
    | true => rw [hc] at z; exact absurd z (by decide)
    | false => rw [hc] at z; exact absurd z (by decide)
theorem TR.n1 (h : TR k v km wm) : km = 1 ↔ (10 ≤ k ∧ k ≤ 30) := by
  rcases h with ⟨g, e⟩ | ⟨g, e | ⟨e, _⟩⟩ | ⟨g, e, _⟩ | ⟨g, e, _⟩ | ⟨g1, g2, e, _⟩ | ⟨g1, g2, e, _⟩
  · rw [e]; exact ⟨fun z => absurd z (by decide), fun z => by omega⟩
  · rw [e]; exact ⟨fun z => absurd z (by decide), fun z => by omega⟩
  · rw [e]; exact ⟨fun z => absurd z (by decide), fun z => by omega⟩
  · rw [e]; exact ⟨fun z => absurd z (by decide), fun z => by omega⟩
  · rw [e]; exact ⟨fun z => absurd z (by decide), fun z => by omega⟩
  · exact ⟨fun _ => ⟨g1, g2⟩, fun _ => e⟩
  · refine ⟨fun z => ?_, fun z => by omega⟩
    rw [e] at z
    cases hc : smC k with
    | true => rw [hc] at z; exact absurd z (by decide)
    | false => rw [hc] at z; exact absurd z (by decide)
theorem TR.w1 (h : TR k v km wm) (g1 : 10 ≤ k) (g2 : k ≤ 30) : wm = nI (wx (k - 10)) := by
  rcases h with ⟨g, _⟩ | ⟨g, _⟩ | ⟨g, _⟩ | ⟨g, _⟩ | ⟨_, _, _, e2⟩ | ⟨g, _⟩
  · omega
  · omega
  · omega
  · omega
  · exact e2
  · omega
theorem TR.n5 (h : TR k v km wm) : km = 5 ↔ (31 ≤ k ∧ k ≤ 43 ∧ smC k = true) := by
  rcases h with ⟨g, e⟩ | ⟨g, e | ⟨e, _⟩⟩ | ⟨g, e, _⟩ | ⟨g, e, _⟩ | ⟨g1, g2, e, _⟩ | ⟨g1, g2, e, _⟩
  · rw [e]; exact ⟨fun z => absurd z (by decide), fun z => by omega⟩
  · rw [e]; exact ⟨fun z => absurd z (by decide), fun z => by omega⟩
  · rw [e]; exact ⟨fun z => absurd z (by decide), fun z => by omega⟩
  · rw [e]; exact ⟨fun z => absurd z (by decide), fun z => by omega⟩
  · rw [e]; exact ⟨fun z => absurd z (by decide), fun z => by omega⟩
  · rw [e]; exact ⟨fun z => absurd z (by decide), fun z => by omega⟩
  · rw [e]
    cases hc : smC k with
    | true => exact ⟨fun _ => ⟨g1, g2, rfl⟩, fun _ => rfl⟩
    | false => exact ⟨fun z => absurd z (by decide), fun z => absurd z.2.2 (by decide)⟩
theorem TR.w5 (h : TR k v km wm) (g1 : 31 ≤ k) (g2 : k ≤ 43) : wm = nI (smW k) := by
  rcases h with ⟨g, _⟩ | ⟨g, _⟩ | ⟨g, _⟩ | ⟨g, _⟩ | ⟨_, g, _, e2⟩ | ⟨_, _, _, e⟩
  · omega
  · omega
  · omega
  · omega
  · omega
  · exact e
theorem TR.w2 (h : TR k v km wm) (g : k = 3) : wm = nI v := by
  rcases h with ⟨g, _⟩ | ⟨g, _⟩ | ⟨g, _⟩ | ⟨_, _, e⟩ | ⟨g, _⟩ | ⟨g, _⟩
  · omega
  · omega
  · omega
  · exact e
  · omega
  · omega
theorem TR.w3 (h : TR k v km wm) (g : k = 2) : ∃ u, u ≤ 999999 ∧ wm = nI u ∧ (u = v ∨ (99999 < v ∧ 99999 < u)) := by
  rcases h with ⟨g, _⟩ | ⟨g, _⟩ | ⟨_, _, e⟩ | ⟨g, _⟩ | ⟨g, _⟩ | ⟨g, _⟩
  · omega
  · omega
  · exact e
  · omega
  · omega
  · omega
end TRs
def HSt (σ : Mm) : List Nat → Prop
  | [] => True
  | x :: r => mI σ 79 r.length = nI x ∧ HSt σ r
def WMt (σ : Mm) : List Nat → Prop
  | [] => True
  | k :: r => mI σ 78 r.length = nI k ∧ WMt σ r
theorem HSt.fr {σ σ' : Mm} (h : ∀ i, mI σ' 79 i = mI σ 79 i) : ∀ {W : List Nat}, HSt σ W → HSt σ' W := by
  intro W
  induction W with
  | nil => intro _; trivial
  | cons k r ih => intro g; exact ⟨(h _).trans g.1, ih g.2⟩
theorem HSt.push {σ : Mm} {n : Nat} {v : Int32} : ∀ {W : List Nat}, W.length ≤ n → HSt σ W → HSt (uI σ 79 n v) W := by
  intro W
  induction W with
  | nil => intro _ _; trivial
  | cons k r ih =>
    intro hn h
    simp only [List.length_cons] at hn
    exact ⟨by rw [mI_n (by omega)]; exact h.1, ih (by omega) h.2⟩
theorem WMt.fr {σ σ' : Mm} (h : ∀ i, mI σ' 78 i = mI σ 78 i) : ∀ {W : List Nat}, WMt σ W → WMt σ' W := by
  intro W
  induction W with
  | nil => intro _; trivial
  | cons k r ih => intro g; exact ⟨(h _).trans g.1, ih g.2⟩
theorem WMt.push {σ : Mm} {n : Nat} {v : Int32} : ∀ {W : List Nat}, W.length ≤ n → WMt σ W → WMt (uI σ 78 n v) W := by
  intro W
  induction W with
  | nil => intro _ _; trivial
  | cons k r ih =>
    intro hn h
    simp only [List.length_cons] at hn
    exact ⟨by rw [mI_n (by omega)]; exact h.1, ih (by omega) h.2⟩
theorem WMt.suf {σ : Mm} : ∀ {V W : List Nat}, WMt σ (V ++ W) → WMt σ W := by
  intro V
  induction V with
  | nil => intro W h; exact h
  | cons k V ih => intro W h; exact ih h.2
/-- knots and what is held -/
def EB (σ : Mm) (D : Nat → Nat → Nat) (R : List Nat) : Prop := (mI σ 59 41 = nI R.length ∧ mI σ 59 21 = nI (D 7 0)) ∧ HSt σ R ∧ ∀ i, i < D 7 0 → mI σ 75 (64 + i) = nI (D 18 i) ∧ mI σ 76 (64 + i) = nI (D 19 i) ∧ (3 ≤ D 18 i → mI σ 77 (64 + i) = nI (D 20 i))
def MF (e : Nat × Nat) (σ : Mm) : Prop := mI σ 59 4 = nI e.1 ∧ mI σ 59 5 = nI e.2
def Wb1 (x i : Nat) : Prop := (x = 59 ∧ (i = 21 ∨ i = 40 ∨ i = 41)) ∨ (75 ≤ x ∧ x ≤ 77 ∧ 64 ≤ i) ∨ x = 79
section ExM
variable {t : Nat} {σ : Mm}
theorem c_154 {e q : Nat} (hS : Sg t σ) (h10 : mI σ 59 10 = nI q) : ∃ σ', Cl 154 [.ref 59, .int (nI e)] σ (some (.int 0), σ') ∧ Fr (fun x i => x = 59 ∧ (i = 4 ∨ i = 5)) σ σ' ∧ MF (e, q) σ' := by
  refine ⟨uI (uI σ 59 4 (nI e)) 59 5 (nI q), ck_154 hS (b_154_0 hS (fun σ1 q1 => ?_)), ((Fr.rf σ).uI ⟨rfl, Or.inl rfl⟩).uI ⟨rfl, Or.inr rfl⟩, ?_, mI_s⟩
  · rw [mI_n (by decide), h10] at q1
    rw [q1]
  · rw [mI_n (by decide), mI_s]
theorem c_181 {k : Nat} (hS : Sg t σ) (h : k < 2 ^ 31) : Cl 181 [.int (nI k)] σ (some (.int (nI (sdg k))), σ) := by
  have i2 : (nI k = 2) ↔ k = 2 := nI_eq (b := 2) h (by decide)
  have i3 : (nI k = 3) ↔ k = 3 := nI_eq (b := 3) h (by decide)
  have i4 : (nI k = 4) ↔ k = 4 := nI_eq (b := 4) h (by decide)
  refine ck_181 hS (b_181_0 hS (pk_lt k 13 (fun g1 => pk_lt k 11 (fun g2 => pk_lt k 5 (fun g3 => w_p i2 (fun g4 => ?_) (fun g4 => w_p i3 (fun g5 => ?_) (fun g5 => w_p i4 (fun g6 => ?_) (fun g6 => ?_)))) (fun g3 => ?_)) (fun g2 => ?_)) (fun g1 => ?_)))
  · rw [g4]; rfl
  · rw [g5]; rfl
  · rw [g6]; rfl
  · unfold sdg; rw [if_neg (by omega), if_neg (by omega), if_neg (by omega), if_neg g4, if_neg g5, if_neg g6]; rfl
  · unfold sdg; rw [if_neg (by omega), if_neg (by omega), if_pos g3]; rfl
  · unfold sdg; rw [if_neg (by omega), if_pos g2]; rfl
  · unfold sdg; rw [if_pos g1]; rfl
theorem c_183 {x : Nat} {r : List Nat} {D : Nat → Nat → Nat} (hS : Sg t σ) (h : EB σ D (x :: r)) (hl : r.length < 96) : Cl 183 [.ref 59] σ (some (.int (nI x)), uI σ 59 41 (nI r.length)) ∧ EB (uI σ 59 41 (nI r.length)) D r := by
  obtain ⟨⟨h1, h2⟩, h3, h4⟩ := h
  have h1 : mI σ 59 41 = nI (r.length + 1) := h1
  have e1 : nI (r.length + 1) - 1 = nI r.length := by rw [show (1 : Int32) = nI 1 from rfl, pk_sub (by omega)]; rfl
  refine ⟨ck_183 hS (b_183_0 hS ?_), ⟨mI_s, by rw [mI_n (by decide)]; exact h2⟩, HSt.fr (fun i => mI_n (by omega)) h3.2, fun i hi => ?_⟩
  · rw [h1, e1, mI_s, nI_clamp (by omega), mI_n (by omega), h3.1]
    exact ⟨inb_nI hl (by decide), rfl⟩
  · rw [mI_n (by omega), mI_n (by omega), mI_n (by omega)]; exact h4 i hi
theorem c_182 {k x y s : Nat} {v : Int32} {r : List Nat} {D : Nat → Nat → Nat} (hS : Sg t σ) (h : EB σ D r) (hK : D 7 0 < 64) (hl : r.length < 96) (hv : 3 ≤ k → v = nI y) : ∃ σ', Cl 182 [.ref 59, .int (nI k), .int (nI x), .int v] σ (none, σ') ∧ Fr Wb1 σ σ' ∧ EB σ' (grw D k x y s) (D 7 0 :: r) ∧ mI σ' 59 40 = mI σ 59 40 := by
  obtain ⟨⟨h1, h2⟩, h3, h4⟩ := h
  generalize eτ : uI (uI (uI (uI (uI (uI σ 75 (64 + D 7 0) (nI k)) 76 (64 + D 7 0) (nI x)) 77 (64 + D 7 0) v) 79 r.length (nI (D 7 0))) 59 41 (nI (r.length + 1))) 59 21 (nI (D 7 0 + 1)) = τ
  have F : Fr Wb1 σ τ := by
    rw [← eτ]
    exact ((((((Fr.rf σ).uI (Or.inr (Or.inl ⟨by decide, by decide, by omega⟩))).uI (Or.inr (Or.inl ⟨by decide, by decide, by omega⟩))).uI (Or.inr (Or.inl ⟨by decide, by decide, by omega⟩))).uI (Or.inr (Or.inr rfl))).uI (Or.inl ⟨rfl, by omega⟩)).uI (Or.inl ⟨rfl, by omega⟩)
  have e64 : (64 : Int32) + nI (D 7 0) = nI (64 + D 7 0) := nI_add 64 (D 7 0)
  have in64 : inb (nI (64 + D 7 0)) 128 = true := inb_nI (by omega) (by decide)
  refine ⟨τ, ck_182 hS (b_182_0 hS ?_), F, ⟨⟨?_, ?_⟩, ⟨?_, ?_⟩, fun i hi => ?_⟩, ?_⟩
  · rw [h2, e64, nI_clamp (by omega)]
    refine ⟨in64, fun σ1 q1 => ?_⟩
    have a1 : mI σ1 59 21 = nI (D 7 0) := by rw [q1, mI_n (by omega), h2]
    rw [a1, e64, nI_clamp (by omega)]
    refine ⟨in64, fun σ4 q4 => ?_⟩
    have a4 : mI σ4 59 21 = nI (D 7 0) := by rw [q4, mI_n (by omega), a1]
    rw [a4, e64, nI_clamp (by omega)]
    refine ⟨in64, fun σ7 q7 => ?_⟩
    have a7 : mI σ7 59 21 = nI (D 7 0) := by rw [q7, mI_n (by omega), a4]
    have b7 : mI σ7 59 41 = nI r.length := by rw [q7, mI_n (by omega), q4, mI_n (by omega), q1, mI_n (by omega), h1]
    rw [a7, b7, nI_clamp (by omega)]
    refine ⟨inb_nI hl (by decide), fun σ10 q10 => ?_⟩
    have a10 : mI σ10 59 21 = nI (D 7 0) := by rw [q10, mI_n (by omega), a7]
    have b10 : mI σ10 59 41 = nI r.length := by rw [q10, mI_n (by omega), b7]
    rw [b10, mI_n (by decide), a10, nI_1, nI_1]
    intro σ13 q13
    rw [q13, q10, q7, q4, q1, eτ]
  · rw [← eτ, mI_n (by decide), mI_s]; rfl
  · rw [← eτ, mI_s, grw_7]
  · rw [← eτ, mI_n (by omega), mI_n (by omega), mI_s]
  · refine HSt.fr (σ := uI (uI (uI (uI σ 75 (64 + D 7 0) (nI k)) 76 (64 + D 7 0) (nI x)) 77 (64 + D 7 0) v) 79 r.length (nI (D 7 0))) (fun i => by rw [← eτ, mI_n (by omega), mI_n (by omega)]) (HSt.push (Nat.le_refl _) (HSt.fr (fun i => by rw [mI_n (by omega), mI_n (by omega), mI_n (by omega)]) h3))
  · rw [grw_7] at hi
    rw [grw_18, grw_19, grw_20, ← eτ]
    by_cases e : i = D 7 0
    · rw [if_pos e, if_pos e, if_pos e, e]
      refine ⟨?_, ?_, fun h3 => ?_⟩
      · rw [mI_n (by omega), mI_n (by omega), mI_n (by omega), mI_n (by omega), mI_n (by omega), mI_s]
      · rw [mI_n (by omega), mI_n (by omega), mI_n (by omega), mI_n (by omega), mI_s]
      · rw [mI_n (by omega), mI_n (by omega), mI_n (by omega), mI_s, hv h3]
    · rw [if_neg e, if_neg e, if_neg e]
      obtain ⟨u1, u2, u3⟩ := h4 i (by omega)
      refine ⟨?_, ?_, fun h3 => ?_⟩
      · rw [mI_n (by omega), mI_n (by omega), mI_n (by omega), mI_n (by omega), mI_n (by omega), mI_n (by omega)]; exact u1
      · rw [mI_n (by omega), mI_n (by omega), mI_n (by omega), mI_n (by omega), mI_n (by omega), mI_n (by omega)]; exact u2
      · rw [mI_n (by omega), mI_n (by omega), mI_n (by omega), mI_n (by omega), mI_n (by omega), mI_n (by omega)]; exact u3 h3
  · rw [← eτ, mI_n (by omega), mI_n (by omega), mI_n (by omega), mI_n (by omega), mI_n (by omega), mI_n (by omega)]
/-- what waits gets its right side -/
theorem c_184 {f l : Nat} (hS : Sg t σ) (hl : 1 ≤ l ∧ l ≤ 6) {W : List Nat} {D : Nat → Nat → Nat} {R : List Nat} (hX : XB f D W R) (hlen : W.length < 96) (h40 : mI σ 59 40 = nI W.length) (hW : WMt σ W) (hE : EB σ D R) : ∃ σ', Cl 184 [.ref 59, .int (nI l)] σ (none, σ') ∧ Fr Wb1 σ σ' ∧ mI σ' 59 40 = nI (bnd l D W R).2.1.length ∧ EB σ' (bnd l D W R).1 (bnd l D W R).2.2 := by
  suffices hh : ∀ (W : List Nat) (D : Nat → Nat → Nat) (R : List Nat) (τ : Mm), Fr Wb1 σ τ → XB f D W R → W.length < 96 → mI τ 59 40 = nI W.length → WMt τ W → EB τ D R → ∀ z2 z3 z4, ∃ σ', Ev 184 0 [.ref 59, .int (nI l), z2, z3, z4] [] τ (none, σ') ∧ Fr Wb1 σ σ' ∧ mI σ' 59 40 = nI (bnd l D W R).2.1.length ∧ EB σ' (bnd l D W R).1 (bnd l D W R).2.2 by
    obtain ⟨σ', d, r⟩ := hh W D R σ (Fr.rf σ) hX hlen h40 hW hE (.retAddr 0) (.retAddr 0) (.retAddr 0)
    exact ⟨σ', ck_184 hS d, r⟩
  clear hX hlen h40 hW hE W D R
  intro W
  induction W with
  | nil =>
    intro D R τ F hX hlen t40 tW tE z2 z3 z4
    refine ⟨τ, b_184_z (F.sg hS) ?_, F, t40, tE⟩
    rw [t40]
    exact ⟨fun z => absurd z (by decide), fun _ => rfl⟩
  | cons k W ih =>
    intro D R τ F hX hlen t40 tW tE z2 z3 z4
    have St := F.sg hS
    have hlen2 : W.length + 1 < 96 := hlen
    have t40 : mI τ 59 40 = nI (W.length + 1) := t40
    have e1 : nI (W.length + 1) - 1 = nI W.length := by rw [show (1 : Int32) = nI 1 from rfl, pk_sub (by omega)]; rfl
    have p0 : (0 : Int32) < nI (W.length + 1) := nI_lt (a := 0) (by omega) (by omega)
    have hin : inb (nI W.length) 96 = true := inb_nI (by omega) (by decide)
    have tk : mI τ 78 (nI W.length).toNatClampNeg = nI k := by rw [nI_clamp (by omega)]; exact tW.1
    have k14 : k ≤ 14 := by
      rcases hX.2.2.1.1 with e | e <;> omega
    have c1 := c_181 (σ := τ) (k := k) St (by omega)
    have s6 := sdg_le k
    by_cases g : l ≤ sdg k
    · have k0 : k ≠ 0 := fun z => by rw [z] at g; have : sdg 0 = 0 := rfl; omega
      obtain ⟨hone, hK⟩ := hX.one k0
      have hRl : R.length ≤ 64 := by
        have := (sk_in hX.1.2).2
        omega
      generalize eυ : uI τ 59 40 (nI W.length) = υ
      have Fu : Fr Wb1 σ υ := by rw [← eυ]; exact F.uI (Or.inl ⟨rfl, by omega⟩)
      have Su := Fu.sg hS
      have u40 : mI υ 59 40 = nI W.length := by rw [← eυ, mI_s]
      have uW : WMt υ W := WMt.fr (fun i => by rw [← eυ, mI_n (by omega)]) tW.2
      have uk : mI υ 78 W.length = nI k := by rw [← eυ, mI_n (by omega)]; exact tW.1
      have uE : EB υ D R := by
        obtain ⟨⟨h1, h2⟩, h3, h4⟩ := tE
        refine ⟨⟨by rw [← eυ, mI_n (by decide)]; exact h1, by rw [← eυ, mI_n (by decide)]; exact h2⟩, HSt.fr (fun i => by rw [← eυ, mI_n (by omega)]) h3, fun i hi => ?_⟩
        rw [← eυ, mI_n (by omega), mI_n (by omega), mI_n (by omega)]; exact h4 i hi
      have nlt : ¬ nI (sdg k) < nI l := nI_nlt g (by omega)
      rcases hone with ⟨e2, x, r, eR, hX'⟩ | ⟨k3, _, y, x, r, eR, hX'⟩
      · have eq : bnd l D (k :: W) R = bnd l (grw D 2 x 0 10023) W (D 7 0 :: r) := by
          show (if l ≤ sdg k then (if k = 2 then bnd l (grw D 2 (R.getD 0 0) 0 10023) W (D 7 0 :: R.drop 1) else _) else _) = _
          rw [if_pos g, if_pos e2, eR]
          rfl
        subst eR
        simp only [List.length_cons] at hRl
        obtain ⟨d1, E1⟩ := c_183 Su uE (by omega)
        have F1 : Fr Wb1 σ (uI υ 59 41 (nI r.length)) := Fu.uI (Or.inl ⟨rfl, by omega⟩)
        obtain ⟨σ2, d2, F2, E2, q2⟩ := c_182 (k := 2) (x := x) (y := 0) (s := 10023) (v := -1) (F1.sg hS) E1 hK (by omega) (fun z => by omega)
        have FF2 := F1.tr F2
        obtain ⟨σ', d3, r3⟩ := ih _ _ σ2 FF2 hX' (by omega) (by rw [q2, mI_n (by decide), u40]) (WMt.fr (fun i => ((F2.1 78 i (fun z => by unfold Wb1 at z; omega)).1).trans (mI_n (by omega))) uW) E2 (.int (nI k)) (.int (-1)) (.int (nI x))
        rw [eq]
        refine ⟨σ', b_184_z St ?_, r3⟩
        rw [t40, e1, tk]
        refine ⟨fun _ => ⟨hin, _, _, c1, St, fun z => absurd z nlt, fun _ => ?_⟩, fun z => absurd p0 z⟩
        rw [t40, e1, eυ, u40, nI_clamp (by omega), uk, e2]
        rw [e2] at d3
        exact ⟨hin, fun _ => ⟨_, _, d1, F1.sg hS, σ2, d2, FF2.sg hS, d3⟩, fun z => absurd rfl z⟩
      · have eq : bnd l D (k :: W) R = bnd l (grw D k x y (10000 + kz k)) W (D 7 0 :: r) := by
          show (if l ≤ sdg k then (if k = 2 then _ else bnd l (grw D k (R.getD 1 0) (R.getD 0 0) (10000 + kz k)) W (D 7 0 :: R.drop 2)) else _) = _
          rw [if_pos g, if_neg (by omega), eR]
          rfl
        subst eR
        simp only [List.length_cons] at hRl
        obtain ⟨d1, E1⟩ := c_183 Su uE (by simp only [List.length_cons]; omega)
        have F1 : Fr Wb1 σ (uI υ 59 41 (nI (x :: r).length)) := Fu.uI (Or.inl ⟨rfl, by omega⟩)
        obtain ⟨d1b, E1b⟩ := c_183 (F1.sg hS) E1 (by omega)
        have F1b : Fr Wb1 σ (uI (uI υ 59 41 (nI (x :: r).length)) 59 41 (nI r.length)) := F1.uI (Or.inl ⟨rfl, by omega⟩)
        obtain ⟨σ2, d2, F2, E2, q2⟩ := c_182 (k := k) (x := x) (y := y) (s := 10000 + kz k) (v := nI y) (F1b.sg hS) E1b hK (by omega) (fun _ => rfl)
        have FF2 := F1b.tr F2
        obtain ⟨σ', d3, r3⟩ := ih _ _ σ2 FF2 hX' (by omega) (by rw [q2, mI_n (by decide), mI_n (by decide), u40]) (WMt.fr (fun i => ((F2.1 78 i (fun z => by unfold Wb1 at z; omega)).1).trans (by rw [mI_n (by omega), mI_n (by omega)])) uW) E2 (.int (nI k)) (.int (nI y)) (.int (nI x))
        rw [eq]
        refine ⟨σ', b_184_z St ?_, r3⟩
        rw [t40, e1, tk]
        refine ⟨fun _ => ⟨hin, _, _, c1, St, fun z => absurd z nlt, fun _ => ?_⟩, fun z => absurd p0 z⟩
        rw [t40, e1, eυ, u40, nI_clamp (by omega), uk]
        exact ⟨hin, fun z => absurd ((nI_eq (b := 2) (by omega) (by decide)).mp z) (by omega), fun _ => ⟨_, _, d1, F1.sg hS, _, _, d1b, F1b.sg hS, σ2, d2, FF2.sg hS, d3⟩⟩
    · have eb : bnd l D (k :: W) R = (D, k :: W, R) := if_neg g
      rw [eb]
      refine ⟨τ, b_184_z St ?_, F, t40, tE⟩
      rw [t40, e1, tk]
      exact ⟨fun _ => ⟨hin, _, _, c1, St, fun _ => rfl, fun z => absurd (nI_lt (by omega) (by omega)) z⟩, fun z => absurd p0 z⟩
end ExM
