/-! ===== specs: settle, partsOf ===== -/
theorem Spn_x {P F k a b : Nat} {ties : Nat → Nat} (ha : Spn F (tn ties P) k a) (hb : Spn F (tn ties P) k b) : Spn F (tn ties P) k (a ^^^ b) := by
  obtain ⟨s, hs, h1, rfl⟩ := ha
  obtain ⟨u, hu, h2, rfl⟩ := hb
  exact ⟨s ^^^ u, Nat.xor_lt_two_pow hs hu, sub_xor h1 h2, tn_xor s u P⟩
theorem Spn_old {P F k : Nat} {ties : Nat → Nat} (hk : k < P) (h : F.testBit k = false ∨ Spn F (tn ties P) k (ties k)) (v : Nat) : Spn F (tn ties P) (k + 1) v ↔ Spn F (tn ties P) k v := by
  rw [Spn_s hk]
  refine ⟨fun z => z.elim id (fun y => ?_), Or.inl⟩
  rcases h with h | h
  · rw [h] at y; exact absurd y.1 (by decide)
  · have := Spn_x y.2 h
    rw [xor_cancel] at this
    exact this
theorem top_bit {x h : Nat} (h1 : 2 ^ h ≤ x) (h2 : x < 2 ^ (h + 1)) : x.testBit h = true := by
  rcases half h2 with g | ⟨d, hd, rfl⟩
  · omega
  · rw [Nat.testBit_or, Nat.testBit_two_pow_self, Bool.or_true]
theorem sub_bas {F k a : Nat} {ties tz : Nat → Nat} (ha : a &&& bas F ties tz k = a) : a &&& bas F ties tz (k + 1) = a := by
  refine Nat.eq_of_testBit_eq (fun j => ?_)
  have h : (a &&& bas F ties tz k).testBit j = a.testBit j := by rw [ha]
  rw [Nat.testBit_and, bas_bit] at h
  rw [Nat.testBit_and, bas_bit]
  by_cases e : j < k
  · rw [decide_eq_true e] at h
    rw [decide_eq_true (show j < k + 1 by omega)]
    exact h
  · rw [decide_eq_false e, Bool.false_and, Bool.and_false] at h
    rw [← h, Bool.false_and]
theorem bas_le {F : Nat} {ties tz : Nat → Nat} {k : Nat} : bas F ties tz k < 2 ^ k := bitsOf_lt _ k
section Settle
variable {t : Nat} {σ : Mm}
def W1 (a i : Nat) : Prop := a = 56 ∨ a = 57 ∨ a = 58
theorem W1r : ∀ a i, Wr a i → W1 a i := fun _ _ h => Or.inl h
def Rows (P F : Nat) (ties : Nat → Nat) (k : Nat) (r p : Nat → Nat) (σ : Mm) : Prop := Rw r ∧ (∀ l, l < 14 → mI σ 57 l = nI (r l) ∧ mI σ 58 l = nI (p l)) ∧ (∀ l, r l < 2 ^ 14) ∧ (∀ l, tn ties P (p l) = r l) ∧ (∀ l, p l &&& bas F ties (tn ties P) k = p l ∧ p l < 2 ^ k) ∧ (∀ v, RS r 14 v ↔ Spn F (tn ties P) k v)
theorem c_1 {a1 P Q F : Nat} {ties : Nat → Nat} (hS : Sg t σ) (h1 : KS[a1]? = some (11, 10)) (ha : a1 ≠ 56 ∧ a1 ≠ 57 ∧ a1 ≠ 58) (hQ : Q ≤ P) (hP : P ≤ 10) (ht : ∀ i, i < Q → mI σ a1 i = nI (ties i)) (hb : ∀ i, i < P → ties i < 2 ^ 14) (hF : F < 2 ^ 31) :
    ∃ σ' r p, Cl 1 [.ref 56, .ref a1, .int (nI Q), .int (nI F)] σ (some (.int (nI (bas F ties (tn ties P) Q))), σ') ∧ Fr W1 σ σ' ∧ Rows P F ties Q r p σ' := by
  have hT : ∀ σ', Fr W1 σ σ' → ∀ i, i < Q → mI σ' a1 i = nI (ties i) := fun σ' hf i hi => ((hf.1 a1 i (by unfold W1; omega)).1).trans (ht i hi)
  have two : ∀ σ1 z6, Fr W1 σ σ1 → (∀ l, l < 14 → mI σ1 57 l = 0 ∧ mI σ1 58 l = 0) → ∃ σ' r p, Ev 1 38 [.ref 56, .ref a1, .int (nI Q), .int (nI F), .int 0, .int 0, z6] [] σ1 (some (.int (nI (bas F ties (tn ties P) Q))), σ') ∧ Fr W1 σ σ' ∧ Rows P F ties Q r p σ' := by
    intro σ1 z6 hf1 hz1
    have tn0 : tn ties P 0 = 0 := tn_hi (p := 0) Nat.one_pos P (Nat.zero_le P)
    have RS0 : ∀ n v, RS (fun _ => 0) n v ↔ v = 0 := by
      intro n
      induction n with
      | zero => intro v; exact Iff.rfl
      | succ n ih =>
        intro v
        show RS _ n v ∨ RS _ n (v ^^^ 0) ↔ _
        rw [Nat.xor_zero, ih, or_self]
    have h0 : Rows P F ties 0 (fun _ => 0) (fun _ => 0) σ1 := by
      refine ⟨fun l => ⟨Nat.two_pow_pos _, Or.inl rfl⟩, hz1, fun _ => Nat.two_pow_pos 14, fun _ => tn0, fun _ => ⟨Nat.zero_and _, Nat.one_pos⟩, fun v => ?_⟩
      rw [RS0]
      constructor
      · intro e; subst e; exact ⟨0, Nat.one_pos, Nat.zero_and _, tn0⟩
      · intro ⟨s, hs, _, e⟩
        have : s = 0 := by omega
        subst this
        rw [← e, tn0]
    refine lp (fun k σ' => Fr W1 σ σ' ∧ ∃ r p, Rows P F ties k r p σ') (fun k σ1 => ∀ z6, ∃ σ' r p, Ev 1 38 [.ref 56, .ref a1, .int (nI Q), .int (nI F), .int (nI (bas F ties (tn ties P) k)), .int (nI k), z6] [] σ1 (some (.int (nI (bas F ties (tn ties P) Q))), σ') ∧ Fr W1 σ σ' ∧ Rows P F ties Q r p σ') Q ?_ ?_ (Nat.zero_le _) ⟨hf1, _, _, h0⟩ z6
    · intro k σ2 hk ⟨hf2, r, p, hR⟩ ih z6
      obtain ⟨hw, hm, hr14, htz, hps, hsp⟩ := hR
      have hS2 := hf2.sg hS
      have hkP : k < P := by omega
      -- nothing new
      have old : (F.testBit k = false ∨ Spn F (tn ties P) k (ties k)) → bas F ties (tn ties P) (k + 1) = bas F ties (tn ties P) k ∧ ∀ σ3, Fr W1 σ σ3 → (∀ l, l < 14 → mI σ3 57 l = nI (r l) ∧ mI σ3 58 l = nI (p l)) → ∃ r p, Rows P F ties (k + 1) r p σ3 := by
        intro ho
        have e : bas F ties (tn ties P) (k + 1) = bas F ties (tn ties P) k := by
          refine (bitsOf_no ?_).symm
          rcases ho with g | g
          · rw [g, Bool.false_and]
          · rw [spb_iff.mpr g]; exact Bool.and_false _
        refine ⟨e, fun σ3 hf3 hm3 => ⟨r, p, hw, hm3, hr14, htz, fun l => ?_, fun v => ?_⟩⟩
        · rw [e]
          exact ⟨(hps l).1, Nat.lt_of_lt_of_le (hps l).2 (Nat.pow_le_pow_right (by decide) (by omega))⟩
        · rw [hsp v, Spn_old hkP ho]
      cases hFk : F.testBit k with
      | false =>
        obtain ⟨e, ho⟩ := old (Or.inl hFk)
        obtain ⟨σ', r', p', h, g⟩ := ih σ2 ⟨hf2, ho σ2 hf2 hm⟩ z6
        refine ⟨σ', r', p', b_1_38 hS2 h1 ?_, g⟩
        refine pk_lt k Q (fun _ => pk_lt k 10 (fun _ => bitc hF (by omega) (fun _ => ?_) (fun z => by rw [hFk] at z; cases z)) (fun z => absurd hk (by omega))) (fun z => absurd hk (by omega))
        rw [nI_1, ← e]; exact h
      | true =>
        obtain ⟨σ3, h3, hf3, hre, hus⟩ := c_3 (v := ties k) hS2 hm hr14 (hb k hkP)
        have hS3 := hf3.sg hS2
        have hf3' : Fr W1 σ σ3 := hf2.tr (hf3.mono W1r)
        have hm3 : ∀ l, l < 14 → mI σ3 57 l = nI (r l) ∧ mI σ3 58 l = nI (p l) := fun l hl => ⟨((hf3.1 57 l (by unfold Wr; omega)).1).trans (hm l hl).1, ((hf3.1 58 l (by unfold Wr; omega)).1).trans (hm l hl).2⟩
        have hrb := red_bit hw 14 (ties k) (hb k hkP)
        have hui := rdu_inv (u := 0) rfl htz 14 (ties k)
        rw [tn0, Nat.xor_zero] at hui
        have hus2 := rdu_sub (r := r) hps 14 (ties k) 0 ⟨Nat.zero_and _, Nat.two_pow_pos _⟩
        have hrz := red_z hw 14 (ties k)
        have hri := red_in (r := r) 14 (ties k)
        generalize red r 14 (ties k) = q at hre hrb hui hrz hri
        generalize rdu r p 14 (ties k) 0 = u at hus hui hus2
        rcases Nat.eq_zero_or_pos q with hq | hq
        · obtain ⟨e, ho⟩ := old (Or.inr ((hsp _).mp (hrz.mp hq)))
          obtain ⟨σ', r', p', h, g⟩ := ih σ3 ⟨hf3', ho σ3 hf3' hm3⟩ (.int (31 - 32))
          refine ⟨σ', r', p', b_1_38 hS2 h1 ?_, g⟩
          rw [nI_clamp (by omega), hT σ2 hf2 k hk]
          refine pk_lt k Q (fun _ => pk_lt k 10 (fun _ => bitc hF (by omega) (fun z => by rw [hFk] at z; cases z) (fun _ => ⟨inb_nI (by omega) (by decide), σ3, h3, hS3, 32, σ3, ?_, hS3, ?_⟩)) (fun z => absurd hk (by omega))) (fun z => absurd hk (by omega))
          · rw [hre, hq]; exact c_274z hS3
          · refine ⟨fun _ => ?_, fun z => absurd (by decide) z⟩
            rw [nI_1, ← e]; exact h
        · obtain ⟨hn1, hn2, hn3⟩ := nz_n hrb.1 hq
          have hh : 31 - nz q < 14 := by
            rcases Nat.lt_or_ge (31 - nz q) 14 with g | g
            · exact g
            · have := Nat.pow_le_pow_right (n := 2) (by decide) g
              have := hrb.1
              omega
          have eh : (31 : Int32) - nI (nz q) = nI (31 - nz q) := pk_sub (a := 31) (b := nz q) hn1
          generalize 31 - nz q = h at hn2 hn3 hh eh
          have hbit := top_bit hn2 hn3
          have hr0 : r h = 0 := by
            rcases Nat.eq_zero_or_pos (r h) with g | g
            · exact g
            · have := hrb.2 h hh (by omega)
              rw [hbit] at this; cases this
          have hns : ¬ Spn F (tn ties P) k (ties k) := fun z => by
            have := hrz.mpr ((hsp _).mpr z)
            omega
          have eb : bas F ties (tn ties P) (k + 1) = bas F ties (tn ties P) k ||| 2 ^ k := by
            refine (bitsOf_or ?_).symm
            have : spb F (tn ties P) k (ties k) = false := by
              cases hs : spb F (tn ties P) k (ties k) with
              | true => exact absurd (spb_iff.mp hs) hns
              | false => rfl
            rw [hFk, this]; rfl
          have hnew : Rows P F ties (k + 1) (fun i => if i = h then q else r i) (fun i => if i = h then u ||| 2 ^ k else p i) (uI (uI σ3 57 h (nI q)) 58 h (nI (u ||| 2 ^ k))) := by
            refine ⟨fun l => ?_, fun l hl => ⟨?_, ?_⟩, fun l => ?_, fun l => ?_, fun l => ?_, ?_⟩
            · by_cases e : l = h
              · subst e
                show (if l = l then q else r l) < _ ∧ ((if l = l then q else r l) = 0 ∨ (if l = l then q else r l).testBit l = true)
                rw [if_pos rfl]
                exact ⟨hn3, Or.inr hbit⟩
              · show (if l = h then q else r l) < _ ∧ ((if l = h then q else r l) = 0 ∨ (if l = h then q else r l).testBit l = true)
                rw [if_neg e]
                exact hw l
            · rw [mI_uI, if_neg (by omega), mI_uI]
              by_cases e : l = h
              · rw [if_pos ⟨rfl, e⟩]
                show _ = nI (if l = h then q else r l)
                rw [if_pos e]
              · rw [if_neg (fun z => e z.2)]
                show _ = nI (if l = h then q else r l)
                rw [if_neg e]; exact (hm3 l hl).1
            · rw [mI_uI]
              by_cases e : l = h
              · rw [if_pos ⟨rfl, e⟩]
                show _ = nI (if l = h then u ||| 2 ^ k else p l)
                rw [if_pos e]
              · rw [if_neg (fun z => e z.2), mI_uI, if_neg (by omega)]
                show _ = nI (if l = h then u ||| 2 ^ k else p l)
                rw [if_neg e]; exact (hm3 l hl).2
            · show (if l = h then q else r l) < _
              split
              · exact hrb.1
              · exact hr14 l
            · show tn ties P (if l = h then u ||| 2 ^ k else p l) = if l = h then q else r l
              split
              · rw [tn_or hkP hus2.2, ← hui, Nat.xor_comm q, ← Nat.xor_assoc, Nat.xor_self, Nat.zero_xor]
              · exact htz l
            · show (if l = h then u ||| 2 ^ k else p l) &&& _ = (if l = h then u ||| 2 ^ k else p l) ∧ (if l = h then u ||| 2 ^ k else p l) < _
              split
              · refine ⟨(sub_or hus2.2).mpr ⟨sub_bas hus2.1, ?_⟩, ?_⟩
                · rw [eb, Nat.testBit_or, Nat.testBit_two_pow_self, Bool.or_true]
                · have := hus2.2
                  rw [or_lt this, Nat.pow_succ]; omega
              · exact ⟨sub_bas (hps l).1, Nat.lt_of_lt_of_le (hps l).2 (Nat.pow_le_pow_right (by decide) (by omega))⟩
            · exact RS_pull hkP hh hr0 hFk hsp hri
          have hf4 : Fr W1 σ (uI (uI σ3 57 h (nI q)) 58 h (nI (u ||| 2 ^ k))) := (hf3'.uI (Or.inr (Or.inl rfl))).uI (Or.inr (Or.inr rfl))
          obtain ⟨σ', r', p', hh5, g⟩ := ih _ ⟨hf4, _, _, hnew⟩ (.int (nI h))
          refine ⟨σ', r', p', b_1_38 hS2 h1 ?_, g⟩
          rw [nI_clamp (n := k) (by omega), hT σ2 hf2 k hk]
          refine pk_lt k Q (fun _ => pk_lt k 10 (fun _ => bitc hF (by omega) (fun z => by rw [hFk] at z; cases z) (fun _ => ⟨inb_nI (by omega) (by decide), σ3, h3, hS3, nI (nz q), σ3, ?_, hS3, ?_⟩)) (fun z => absurd hk (by omega))) (fun z => absurd hk (by omega))
          · rw [hre]; exact c_274 hS3 hrb.1 hq
          · rw [eh, hre, nI_clamp (n := h) (by omega)]
            refine ⟨fun z => absurd z (nI_pos (by omega)), fun _ => pk_lt h 14 (fun _ => ⟨inb_nI hh (by decide), ?_⟩) (fun z => absurd hh (by omega)) rfl rfl (by omega) (by omega)⟩
            intro σ7 e7
            refine ⟨inb_nI hh (by decide), ?_⟩
            intro σ10 e10
            rw [e7, mI_uI, if_neg (by omega), hus, nI_one (by omega), fa_or] at e10
            rw [e10]
            refine b_1_119 (hf4.sg hS) h1 ?_
            rw [nI_one (by omega), fa_or, nI_1, ← eb]
            exact hh5
    · intro σ2 ⟨hf2, r, p, hR⟩ z6
      exact ⟨σ2, r, p, b_1_38 (hf2.sg hS) h1 (pk_lt Q Q (fun z => absurd z (Nat.lt_irrefl _)) (fun _ => rfl)), hf2, hR⟩
  have one : ∃ σ' r p, Ev 1 3 [.ref 56, .ref a1, .int (nI Q), .int (nI F), .int (nI 0), .retAddr 0, .retAddr 0] [] σ (some (.int (nI (bas F ties (tn ties P) Q))), σ') ∧ Fr W1 σ σ' ∧ Rows P F ties Q r p σ' := by
    refine lp (fun k σ1 => Fr W1 σ σ1 ∧ ∀ l, l < k → mI σ1 57 l = 0 ∧ mI σ1 58 l = 0) (fun k σ1 => ∃ σ' r p, Ev 1 3 [.ref 56, .ref a1, .int (nI Q), .int (nI F), .int (nI k), .retAddr 0, .retAddr 0] [] σ1 (some (.int (nI (bas F ties (tn ties P) Q))), σ') ∧ Fr W1 σ σ' ∧ Rows P F ties Q r p σ') 14 ?_ ?_ (Nat.zero_le _) ⟨Fr.rf σ, fun l hl => absurd hl (Nat.not_lt_zero l)⟩
    · intro k σ1 hk ⟨hf, hz⟩ ih
      obtain ⟨σ', r, p, h, g⟩ := ih (uI (uI σ1 57 k 0) 58 k 0) ⟨(hf.uI (Or.inr (Or.inl rfl))).uI (Or.inr (Or.inr rfl)), fun l hl => by
        rw [mI_uI, if_neg (by omega), mI_uI, mI_uI]
        by_cases e : l = k
        · rw [if_pos ⟨rfl, e⟩, if_pos ⟨rfl, e⟩]; exact ⟨rfl, rfl⟩
        · rw [if_neg (fun z => e z.2), if_neg (fun z => e z.2), mI_uI, if_neg (by omega)]; exact hz l (by omega)⟩
      refine ⟨σ', r, p, b_1_3 (hf.sg hS) h1 ?_, g⟩
      rw [nI_clamp (by omega)]
      refine pk_lt k 14 (fun _ => ⟨inb_nI hk (by decide), inb_nI hk (by decide), ?_⟩) (fun z => absurd hk (by omega))
      intro σ2 e2
      rw [e2, nI_1]; exact h
    · intro σ1 ⟨hf, hz⟩
      obtain ⟨σ', r, p, h, g⟩ := two σ1 (.retAddr 0) hf hz
      exact ⟨σ', r, p, b_1_3 (hf.sg hS) h1 (pk_lt 14 14 (fun z => absurd z (by decide)) (fun _ => h)), g⟩
  obtain ⟨σ', r, p, h, g⟩ := one
  exact ⟨σ', r, p, ck_1 hS h1 (b_1_0 hS h1 h), g⟩
theorem c_2 {P F k v : Nat} {ties r p : Nat → Nat} (hS : Sg t σ) (hR : Rows P F ties k r p σ) (hv : v < 2 ^ 14) : ∃ σ', Cl 2 [.ref 56, .int (nI v)] σ (some (.int (if red r 14 v = 0 then nI (rdu r p 14 v 0) else -2)), σ') ∧ Fr Wr σ σ' := by
  obtain ⟨hw, hm, hr14, htz, hps, hsp⟩ := hR
  obtain ⟨σ3, h3, hf3, hre, hus⟩ := c_3 hS hm hr14 hv
  have hl := (red_bit hw 14 v hv).1
  refine ⟨σ3, ck_2 hS (b_2_0 hS ⟨σ3, h3, hf3.sg hS, ?_⟩), hf3⟩
  rw [hre, hus]
  refine w_p (nI_i0 (by omega)) (fun h => ?_) (fun h => ?_)
  · rw [if_pos h]
  · rw [if_neg h]
end Settle
