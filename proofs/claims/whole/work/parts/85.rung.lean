/-! ===== a pull is rung ===== -/
def rg3 (D H : Nat → Nat → Nat) (p : Nat) : Nat → Nat → Nat := hu (hu (hu H 1 0 (H 1 0 ^^^ H 8 p)) 4 0 (min 99999 (H 4 0 + bl (lw D 0 (nmP D H p)) (D 10 p) 999))) 9 p (min 999 (H 9 p + 1))
def rg (D : Nat → Nat → Nat) (st : Bool) (H : Nat → Nat → Nat) (p : Nat) : Nat → Nat → Nat := match lw D 1 (nmP D (rg3 D H p) p) with
  | some v => if st = true ∧ v ≠ 0 then hu (rg3 D H p) 3 0 (H 3 0 ||| 2 ^ p) else rg3 D H p
  | none => rg3 D H p
def rvn (D : Nat → Nat → Nat) (st : Bool) (H : Nat → Nat → Nat) (p : Nat) : Nat → Nat → Nat := if (H 3 0).testBit p = true then hu H 5 0 (H 5 0 + 1) else rg D st H p
section Rung
variable {t : Nat} {σ : Mm} {D H : Nat → Nat → Nat}
theorem CH.f {a f v : Nat} (h : CH σ a H) (hf : f < 7) : CH (uI σ a f (nI v)) a (hu H f 0 v) := by
  refine ⟨fun g hg => ?_, fun i hi => ?_, fun i hi => ?_, fun i hi => ?_⟩
  · rw [mI_uI]
    by_cases e : g = f
    · rw [if_pos ⟨rfl, e⟩, e, hu_s]
    · rw [if_neg (fun z => e z.2), hu_n (fun z => e z.1)]; exact h.1 g hg
  · rw [mI_uI, if_neg (by omega), hu_n (by omega)]; exact h.2.1 i hi
  · rw [mI_uI, if_neg (by omega), hu_n (by omega)]; exact h.2.2.1 i hi
  · rw [mI_uI, if_neg (by omega), hu_n (by omega)]; exact h.2.2.2 i hi
theorem CH.r {a k j v : Nat} (h : CH σ a H) (hk : k = 7 ∨ k = 8 ∨ k = 9) : CH (uI σ (a + (k - 6)) j (nI v)) a (hu H k j v) := by
  have key : ∀ k' i, (k' = 7 ∨ k' = 8 ∨ k' = 9) → mI σ (a + (k' - 6)) i = nI (H k' i) → mI (uI σ (a + (k - 6)) j (nI v)) (a + (k' - 6)) i = nI (hu H k j v k' i) := by
    intro k' i hk' hh
    rw [mI_uI]
    by_cases e : k' = k ∧ i = j
    · rw [if_pos ⟨by omega, e.2⟩, e.1, e.2, hu_s]
    · rw [if_neg (by omega), hu_n e]; exact hh
  refine ⟨fun g hg => ?_, fun i hi => key 7 i (Or.inl rfl) (h.2.1 i hi), fun i hi => key 8 i (Or.inr (Or.inl rfl)) (h.2.2.1 i hi), fun i hi => key 9 i (Or.inr (Or.inr rfl)) (h.2.2.2 i hi)⟩
  rw [mI_uI, if_neg (by omega), hu_n (by omega)]; exact h.1 g hg
theorem MH.f {b P f x v : Nat} (h : MH σ b P H) (hf : (f = 0 ∧ x = 87) ∨ (1 ≤ f ∧ f ≤ 5 ∧ x = 81 + f)) : MH (uI σ x b (nI v)) b P (hu H f 0 v) := by
  obtain ⟨⟨m1, m2, m3, m4, m5, m6⟩, ma, mt, mw⟩ := h
  have key : ∀ g y, ((g = 0 ∧ y = 87) ∨ (1 ≤ g ∧ g ≤ 5 ∧ y = 81 + g)) → mI σ y b = nI (H g 0) → mI (uI σ x b (nI v)) y b = nI (hu H f 0 v g 0) := by
    intro g y hg hh
    rw [mI_uI]
    by_cases e : g = f
    · rw [if_pos ⟨by omega, rfl⟩, e, hu_s]
    · rw [if_neg (by omega), hu_n (fun z => e z.1)]; exact hh
  refine ⟨⟨key 1 82 (by omega) m1, key 2 83 (by omega) m2, key 3 84 (by omega) m3, key 4 85 (by omega) m4, key 5 86 (by omega) m5, key 0 87 (by omega) m6⟩, fun i hi => ?_, fun i hi => ?_, fun i hi => ?_⟩
  · rw [mI_uI, if_neg (by omega), hu_n (by omega)]; exact ma i hi
  · rw [mI_uI, if_neg (by omega), hu_n (by omega)]; exact mt i hi
  · rw [mI_uI, if_neg (by omega), hu_n (by omega)]; exact mw i hi
theorem MH.r {b P k x j v : Nat} (h : MH σ b P H) (hk : (k = 7 ∧ x = 14 * b + j) ∨ ((k = 8 ∨ k = 9) ∧ x = 10 * b + j)) : MH (uI σ (81 + k) x (nI v)) b P (hu H k j v) := by
  obtain ⟨⟨m1, m2, m3, m4, m5, m6⟩, ma, mt, mw⟩ := h
  refine ⟨⟨?_, ?_, ?_, ?_, ?_, ?_⟩, fun i hi => ?_, fun i hi => ?_, fun i hi => ?_⟩
  · rw [mI_uI, if_neg (by omega), hu_n (by omega)]; exact m1
  · rw [mI_uI, if_neg (by omega), hu_n (by omega)]; exact m2
  · rw [mI_uI, if_neg (by omega), hu_n (by omega)]; exact m3
  · rw [mI_uI, if_neg (by omega), hu_n (by omega)]; exact m4
  · rw [mI_uI, if_neg (by omega), hu_n (by omega)]; exact m5
  · rw [mI_uI, if_neg (by omega), hu_n (by omega)]; exact m6
  · rw [mI_uI]
    by_cases e : 7 = k ∧ i = j
    · rw [if_pos (by omega), e.1.symm, e.2, hu_s]
    · rw [if_neg (by omega), hu_n e]; exact ma i hi
  · rw [mI_uI]
    by_cases e : 8 = k ∧ i = j
    · rw [if_pos (by omega), e.1.symm, e.2, hu_s]
    · rw [if_neg (by omega), hu_n e]; exact mt i hi
  · rw [mI_uI]
    by_cases e : 9 = k ∧ i = j
    · rw [if_pos (by omega), e.1.symm, e.2, hu_s]
    · rw [if_neg (by omega), hu_n e]; exact mw i hi
theorem WH.up {P f i v : Nat} (h : WH P H) (hv : (f = 0 ∧ v < 2 ^ 20) ∨ ((f = 1 ∨ f = 2) ∧ v < 2 ^ 14) ∨ (f = 3 ∧ v < 2 ^ 10) ∨ (f = 4 ∧ v ≤ 99999) ∨ f = 5 ∨ (f = 6 ∧ v < 2 ^ 31) ∨ ((f = 7 ∨ f = 9) ∧ v ≤ 999) ∨ (f = 8 ∧ v < 2 ^ 14 ∧ i < P)) : WH P (hu H f i v) := by
  obtain ⟨h0, h1, h2, h3, h4, h6, h7, h8, h9, hz⟩ := h
  have key : ∀ g j, hu H f i v g j = v ∧ g = f ∧ j = i ∨ hu H f i v g j = H g j := by
    intro g j
    by_cases e : g = f ∧ j = i
    · left; rw [e.1, e.2, hu_s]; exact ⟨rfl, rfl, rfl⟩
    · right; exact hu_n e
  refine ⟨?_, ?_, ?_, ?_, ?_, ?_, fun j => ?_, fun j => ?_, fun j => ?_, fun j hj => ?_⟩
  · rcases key 0 0 with e | e <;> omega
  · rcases key 1 0 with e | e <;> omega
  · rcases key 2 0 with e | e <;> omega
  · rcases key 3 0 with e | e <;> omega
  · rcases key 4 0 with e | e <;> omega
  · rcases key 6 0 with e | e <;> omega
  · have := h7 j; rcases key 7 j with e | e <;> omega
  · have := h8 j; rcases key 8 j with e | e <;> omega
  · have := h9 j; rcases key 9 j with e | e <;> omega
  · have := hz j hj; rcases key 8 j with e | e <;> omega
theorem oe_none {o : Option Int64} (h : ∀ v, o = some v → Bnd v) : oE o = eV ↔ o = none := by
  cases o with
  | none => exact ⟨fun _ => rfl, fun _ => rfl⟩
  | some v => exact ⟨fun z => absurd z (bnd_ne (h v rfl)), fun z => by cases z⟩
theorem bl_le {o : Option Int64} {w m : Nat} (hw : w ≤ m) (hm : m < 2 ^ 31) : bl o w m ≤ m := by
  cases o with
  | none => exact hw
  | some v => exact cl_le hm
theorem rg3_WH {p : Nat} (hD : WD D) (hW : WH (D 1 0) H) (hp : p < D 1 0) : WH (D 1 0) (rg3 D H p) := by
  have a := hW.2.1
  have b := hW.2.2.2.2.2.2.2.1 p
  exact ((hW.up (Or.inr (Or.inl ⟨Or.inl rfl, Nat.xor_lt_two_pow a b⟩))).up (by omega)).up (by omega)
theorem or_bit {x p n : Nat} (hx : x < 2 ^ n) (hp : p < n) : x ||| 2 ^ p < 2 ^ n := Nat.or_lt_two_pow hx (Nat.pow_lt_pow_right (by decide) hp)
theorem rg_WH {p : Nat} {st : Bool} (hD : WD D) (hW : WH (D 1 0) H) (hp : p < D 1 0) : WH (D 1 0) (rg D st H p) := by
  have hP := hD.1.2.1
  have h3 := rg3_WH hD hW hp
  unfold rg
  split
  · split
    · exact h3.up (Or.inr (Or.inr (Or.inl ⟨rfl, or_bit hW.2.2.2.1 (by omega)⟩)))
    · exact h3
  · exact h3
theorem rvn_WH {p : Nat} {st : Bool} (hD : WD D) (hW : WH (D 1 0) H) (hp : p < D 1 0) : WH (D 1 0) (rvn D st H p) := by
  unfold rvn
  split
  · exact hW.up (by omega)
  · exact rg_WH hD hW hp
def Wru (a x i : Nat) : Prop := (a ≤ x ∧ x ≤ a + 3) ∨ x = 39 ∨ x = 40
theorem c_9 {a1 a2 p : Nat} {st : Bool} (hS : Sg t σ) (h1 : a1 = 3 ∨ a1 = 15) (h2 : a2 = 26 ∨ a2 = 30 ∨ a2 = 34) (hT : CT σ a1 D) (hD : WD D) (hH : CH σ a2 H) (hW : WH (D 1 0) H) (hst : mI σ 38 2 = if st = true then 1 else 0) (hp : p < D 1 0) : ∃ σ', Cl 9 [.ref 38, .ref a1, .ref a2, .int (nI p)] σ (none, σ') ∧ Fr (Wru a2) σ σ' ∧ CH σ' a2 (rvn D st H p) := by
  have hP : D 1 0 ≤ 10 := hD.1.2.1
  have wn : ∀ x i, Wn x i → Wru a2 x i := fun x i h => Or.inr h
  by_cases c : (H 3 0).testBit p = true
  · refine ⟨uI σ a2 5 (nI (H 5 0 + 1)), ck_9 hS h1 h2 (b_9_0 hS h1 h2 ⟨fun z => absurd z (nI_pos (by omega)), fun _ => ?_⟩), (Fr.rf σ).uI (by unfold Wru; omega), ?_⟩
    · rw [hT.1.2.1, hH.1 3 (by decide), hH.1 5 (by decide)]
      have h3 := hW.2.2.2.1
      refine pk_lt p (D 1 0) (fun _ => bitc (by omega) (by omega) (fun z => absurd c (by rw [z]; decide)) (fun _ => ?_)) (fun z => absurd z (by omega)) rfl rfl (by omega) (by omega)
      rw [nI_1]
    · rw [rvn, if_pos c]
      exact hH.f (by decide)
  · obtain ⟨σ1, q1, f1⟩ := c_11p (q := 0) hS h1 h2 hT hD hH hW (by omega) hp
    have f1' := f1.mono wn
    have hS1 := f1.sg hS
    have hT1 := hT.fr f1 (fun x i h3 h4 => by unfold Wn; omega)
    have hH1 := hH.fr f1 (fun x i h3 h4 => by unfold Wn; omega)
    have hcost := hD.2.1 p hp
    have hbnd : ∀ v, lw D 0 (nmP D H p) = some v → Bnd v := fun v h => lw_bnd hD (by omega) (nmP_lt hW hD hp) h
    have h3 := rg3_WH hD hW hp
    have hmore : bl (lw D 0 (nmP D H p)) (D 10 p) 999 ≤ 999 := bl_le (by omega) (by decide)
    have w4 := hW.2.2.2.2.1
    have w9 := hW.2.2.2.2.2.2.2.2.1 p
    -- behind the toll's worth
    have tail : ∃ σ', (∀ y4 z6 z7, Ev 9 76 [.ref 38, .ref a1, .ref a2, .int (nI p), .long y4, .float 0, z6, z7] [.long (lN (bl (lw D 0 (nmP D H p)) (D 10 p) 999))] σ1 (none, σ')) ∧ Fr (Wru a2) σ σ' ∧ CH σ' a2 (rg D st H p) := by
      have hHa : CH (uI σ1 a2 1 (nI (H 1 0 ^^^ H 8 p))) a2 (hu H 1 0 (H 1 0 ^^^ H 8 p)) := hH1.f (by decide)
      have hHb := hHa.f (f := 4) (v := min 99999 (H 4 0 + bl (lw D 0 (nmP D H p)) (D 10 p) 999)) (by decide)
      have hHc := hHb.r (k := 9) (j := p) (v := min 999 (H 9 p + 1)) (Or.inr (Or.inr rfl))
      generalize ea : uI σ1 a2 1 (nI (H 1 0 ^^^ H 8 p)) = σa at hHa hHb hHc
      generalize eb : uI σa a2 4 (nI (min 99999 (H 4 0 + bl (lw D 0 (nmP D H p)) (D 10 p) 999))) = σb at hHb hHc
      have hHc : CH (uI σb (a2 + 3) p (nI (min 999 (H 9 p + 1)))) a2 (rg3 D H p) := hHc
      generalize ec : uI σb (a2 + 3) p (nI (min 999 (H 9 p + 1))) = σc at hHc
      have fa : Fr (Wru a2) σ σa := by rw [← ea]; exact f1'.uI (by unfold Wru; omega)
      have fb : Fr (Wru a2) σ σb := by rw [← eb]; exact fa.uI (by unfold Wru; omega)
      have fc : Fr (Wru a2) σ σc := by rw [← ec]; exact fb.uI (by unfold Wru; omega)
      have hTc := hT.fr fc (fun x i h3 h4 => by unfold Wru; omega)
      obtain ⟨σd, qd, fd⟩ := c_11p (q := 1) (fc.sg hS) h1 h2 hTc hD hHc h3 (by omega) hp
      have fd' : Fr (Wru a2) σ σd := fc.tr (fd.mono wn)
      have hSd := fd'.sg hS
      have hHd := hHc.fr fd (fun x i h3 h4 => by unfold Wn; omega)
      have e38 : mI σd 38 2 = if st = true then 1 else 0 := ((fd'.1 38 2 (by unfold Wru; omega)).1).trans hst
      have hb1 : ∀ v, lw D 1 (nmP D (rg3 D H p) p) = some v → Bnd v := fun v h => lw_bnd hD (by omega) (nmP_lt h3 hD hp) h
      -- up to the last choice
      have go : ∀ σ', ((mI σd 38 2 = 0 → (none, σ') = ((none : Option Value), σd)) ∧ (¬ mI σd 38 2 = 0 → ((oE (lw D 1 (nmP D (rg3 D H p) p)) = 0 → (none, σ') = ((none : Option Value), σd)) ∧ (¬ oE (lw D 1 (nmP D (rg3 D H p) p)) = 0 → ∀ y4, Ev 9 154 [.ref 38, .ref a1, .ref a2, .int (nI p), .long y4, .float 0, .long (oE (lw D 1 (nmP D (rg3 D H p) p))), .float 0] [] σd (none, σ'))))) → ∀ y4 z6 z7, Ev 9 76 [.ref 38, .ref a1, .ref a2, .int (nI p), .long y4, .float 0, z6, z7] [.long (lN (bl (lw D 0 (nmP D H p)) (D 10 p) 999))] σ1 (none, σ') := by
        intro σ' hw y4 z6 z7
        refine b_9_76 hS1 h1 h2 ⟨inb_nI (by omega) (by decide), ?_⟩
        intro σ2 e2
        rw [nI_clamp (by omega), hH1.1 1 (by decide), hH1.2.2.1 p (by omega), nI_xor, ea] at e2
        subst e2
        have x4 : mI σ2 a2 4 = nI (H 4 0) := (hHa.1 4 (by decide)).trans (by rw [hu_n (by omega)])
        rw [lN_i, x4, nI_add]
        refine ⟨_, _, c_280n (a := 99999) (fa.sg hS) (by decide) (by omega), fa.sg hS, inb_nI (by omega) (by decide), ?_⟩
        rw [eb, nI_clamp (by omega)]
        have x9 : mI σb (a2 + 3) p = nI (H 9 p) := (hHb.2.2.2 p (by omega)).trans (by rw [hu_n (by omega), hu_n (by omega)])
        rw [x9, nI_1]
        refine ⟨_, _, c_280n (a := 999) (fb.sg hS) (by decide) (by omega), fb.sg hS, inb_nI (by omega) (by decide), ?_⟩
        rw [ec]
        refine ⟨_, _, qd, hSd, hw.1, fun z => ⟨(hw.2 z).1, fun y => (hw.2 z).2 y _⟩⟩
      by_cases hstick : ∃ v, lw D 1 (nmP D (rg3 D H p) p) = some v ∧ st = true ∧ v ≠ 0
      · obtain ⟨v, ev, es, nv⟩ := hstick
        refine ⟨uI σd a2 3 (nI (H 3 0 ||| 2 ^ p)), go _ ⟨fun z => ?_, fun _ => ⟨fun z => ?_, fun _ y4 => ?_⟩⟩, fd'.uI (by unfold Wru; omega), ?_⟩
        · rw [e38, es] at z
          exact absurd z (by decide)
        · rw [ev] at z
          exact absurd z nv
        · refine b_9_154 hSd h1 h2 ⟨fun z => ?_, fun _ => ?_⟩
          · have := (oe_none hb1).mp z
            rw [ev] at this
            cases this
          · intro σ5 e5
            rw [e5, nI_one (by omega), hHd.1 3 (by decide), fa_or]
            rfl
        · rw [rg, ev]
          show CH _ a2 (if st = true ∧ v ≠ 0 then hu (rg3 D H p) 3 0 (H 3 0 ||| 2 ^ p) else rg3 D H p)
          rw [if_pos ⟨es, nv⟩]
          exact hHd.f (by decide)
      · refine ⟨σd, go _ ⟨fun _ => rfl, fun z1 => ⟨fun _ => rfl, fun z2 y4 => ?_⟩⟩, fd', ?_⟩
        · refine b_9_154 hSd h1 h2 ⟨fun _ => rfl, fun z3 => ?_⟩
          cases ev : lw D 1 (nmP D (rg3 D H p) p) with
          | none => rw [ev] at z3; exact absurd rfl z3
          | some v =>
            refine absurd ⟨v, ev, ?_, ?_⟩ hstick
            · cases st with
              | true => rfl
              | false => rw [e38] at z1; exact absurd rfl z1
            · rw [ev] at z2; exact z2
        · rw [rg]
          cases ev : lw D 1 (nmP D (rg3 D H p) p) with
          | none => exact hHd
          | some v =>
            show CH _ a2 (if st = true ∧ v ≠ 0 then hu (rg3 D H p) 3 0 (H 3 0 ||| 2 ^ p) else rg3 D H p)
            rw [if_neg (fun z => hstick ⟨v, ev, z.1, z.2⟩)]
            exact hHd
    obtain ⟨σ', ht, ft, ct⟩ := tail
    refine ⟨σ', ck_9 hS h1 h2 (b_9_0 hS h1 h2 ⟨fun z => absurd z (nI_pos (by omega)), fun _ => ?_⟩), ft, ?_⟩
    · rw [hT.1.2.1, hH.1 3 (by decide)]
      have h3 := hW.2.2.2.1
      refine pk_lt p (D 1 0) (fun _ => bitc (by omega) (by omega) (fun _ => ⟨_, _, q1, hS1, fun z => ?_, fun z => ?_⟩) (fun z => absurd z c)) (fun z => absurd z (by omega)) rfl rfl (by omega) (by omega)
      · have e0 := (oe_none hbnd).mp z
        rw [nI_clamp (by omega), hT1.2.2.2.2.2.2.1 p hp, nI_l (by omega)]
        refine ⟨inb_nI (by omega) (by decide), ?_⟩
        rw [e0] at ht ⊢
        exact ht _ _ _
      · cases ev : lw D 0 (nmP D H p) with
        | none => rw [ev] at z; exact absurd rfl z
        | some v =>
          refine ⟨_, _, c_281 hS1, hS1, _, _, c_279 hS1, hS1, ?_⟩
          have ec := cl_c (v := v) (m := 999) (by decide)
          have ec : (if (0 : Int64) < (if v < 999 then v else 999) then (if v < 999 then v else 999) else 0) = lN (cl v 999) := ec
          rw [ev] at ht
          show Ev 9 76 _ [.long (if (0 : Int64) < (if v < 999 then v else 999) then (if v < 999 then v else 999) else 0)] σ1 _
          rw [ec]
          exact ht _ _ _
    · rw [rvn, if_neg c]
      exact ct
end Rung
