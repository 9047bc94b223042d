/-! ===== a pull is rung, second side; a lamp ages ===== -/
def Wm (b : Nat) (dr : Bool) (x i : Nat) : Prop := ((82 ≤ x ∧ x ≤ 87 ∧ i = b) ∨ (x = 88 ∧ 14 * b ≤ i ∧ i < 14 * b + 14) ∨ ((x = 89 ∨ x = 90) ∧ 10 * b ≤ i ∧ i < 10 * b + 10)) ∨ x = 80 ∨ x = 81 ∨ (x = 59 ∧ i = 48) ∨ (dr = true ∧ x = 59 ∧ i = 58)
def ag3 (H : Nat → Nat → Nat) (l : Nat) : Nat → Nat → Nat := hu H 7 l (min 999 (H 7 l + 1))
def odd (D H : Nat → Nat → Nat) (l : Nat) : Nat := bl (lw D 2 (nmL (ag3 H l) l)) (D 5 0) 100
def ag4 (D : Nat → Nat → Nat) (dr : Bool) (H : Nat → Nat → Nat) (l : Nat) : Nat → Nat → Nat := if dr = true ∧ 0 < odd D H l ∧ odd D H l < 100 then hu (ag3 H l) 6 0 (nx (H 6 0)) else ag3 H l
def agf (D : Nat → Nat → Nat) (dr : Bool) (H : Nat → Nat → Nat) (l : Nat) : Bool := if dr = true ∧ 0 < odd D H l ∧ odd D H l < 100 then decide (nx (H 6 0) / 65536 % 100 < odd D H l) else decide (50 ≤ odd D H l)
def ag (D : Nat → Nat → Nat) (dr bu : Bool) (H : Nat → Nat → Nat) (l : Nat) : Nat → Nat → Nat := if bu = true ∧ agf D dr H l = true then hu (ag4 D dr H l) 2 0 (H 2 0 ||| 2 ^ l) else ag4 D dr H l
section Fate
variable {t : Nat} {σ : Mm} {D H : Nat → Nat → Nat}
theorem wm_t {b x i : Nat} {dr : Bool} (h : (x = 59 ∧ 12 ≤ i ∧ i ≤ 16) ∨ (62 ≤ x ∧ x ≤ 77)) : ¬ Wm b dr x i := by unfold Wm; omega
theorem c_210 {b p : Nat} {st dr : Bool} (hS : Sg t σ) (hb : b < 2) (hT : MT σ D) (hD : WD D) (hH : MH σ b (D 1 0) H) (hW : WH (D 1 0) H) (hst : mI σ 59 61 = if st = true then 0 else 1) (hp : p < D 1 0) : ∃ σ', Cl 210 [.ref 59, .int (nI b), .int (nI p)] σ (none, σ') ∧ Fr (Wm b dr) σ σ' ∧ MH σ' b (D 1 0) (rg D st H p) := by
  have hP : D 1 0 ≤ 10 := hD.1.2.1
  have w80 : ∀ x i, W80 x i → Wm b dr x i := fun x i h => by unfold W80 at h; unfold Wm; omega
  have wlo : ∀ x i, Wlo x i → Wm b dr x i := fun x i h => by unfold Wlo at h; unfold Wm; omega
  have n80 : ∀ x i, ((82 ≤ x ∧ x ≤ 87 ∧ i = b) ∨ (x = 88 ∧ 14 * b ≤ i ∧ i < 14 * b + 14) ∨ ((x = 89 ∨ x = 90) ∧ 10 * b ≤ i ∧ i < 10 * b + 10)) → ¬ W80 x i := fun x i h => by unfold W80; omega
  have nlo : ∀ x i, ((82 ≤ x ∧ x ≤ 87 ∧ i = b) ∨ (x = 88 ∧ 14 * b ≤ i ∧ i < 14 * b + 14) ∨ ((x = 89 ∨ x = 90) ∧ 10 * b ≤ i ∧ i < 10 * b + 10)) → ¬ Wlo x i := fun x i h => by unfold Wlo; omega
  have ei : (10 : Int32) * nI b + nI p = nI (10 * b + p) := by
    rw [show (10 : Int32) = nI 10 from rfl, pk_mul, nI_add]
  have eb : (nI b).toNatClampNeg = b := nI_clamp (by omega)
  have ex : (nI (10 * b + p)).toNatClampNeg = 10 * b + p := nI_clamp (by omega)
  have ep : (nI p).toNatClampNeg = p := nI_clamp (by omega)
  have ib : inb (nI b) 2 = true := inb_nI hb (by decide)
  have ix : inb (nI (10 * b + p)) 20 = true := inb_nI (by omega) (by decide)
  have hcost := hD.2.1 p hp
  have h3 := rg3_WH hD hW hp
  have w4 := hW.2.2.2.2.1
  have w9 := hW.2.2.2.2.2.2.2.2.1 p
  have hmore : bl (lw D 0 (nmP D H p)) (D 10 p) 999 ≤ 999 := bl_le (by omega) (by decide)
  obtain ⟨σ1, q1, f1, l1⟩ := c_206 hS hb hT hD hH hW hp
  have hS1 := f1.sg hS
  have hT1 := hT.fr f1 (fun x i h => by unfold W80; omega)
  obtain ⟨σ2, q2, f2⟩ := c_209 (q := 0) (w := D 10 p) (m := 999) hS1 hT1 hD (by omega) l1 (nmP_lt hW hD hp) (by decide)
  have F2 : Fr (Wm b dr) σ σ2 := (f1.mono w80).tr (f2.mono wlo)
  have hH2 := (hH.fr hb hP f1 n80).fr hb hP f2 nlo
  have hHa : MH (uI σ2 82 b (nI (H 1 0 ^^^ H 8 p))) b (D 1 0) (hu H 1 0 (H 1 0 ^^^ H 8 p)) := hH2.f (by omega)
  have hHb := hHa.f (f := 4) (x := 85) (v := min 99999 (H 4 0 + bl (lw D 0 (nmP D H p)) (D 10 p) 999)) (by omega)
  have hHc := hHb.r (k := 9) (x := 10 * b + p) (j := p) (v := min 999 (H 9 p + 1)) (by omega)
  generalize ea : uI σ2 82 b (nI (H 1 0 ^^^ H 8 p)) = σa at hHa hHb hHc
  generalize eb2 : uI σa 85 b (nI (min 99999 (H 4 0 + bl (lw D 0 (nmP D H p)) (D 10 p) 999))) = σb at hHb hHc
  have hHc : MH (uI σb 90 (10 * b + p) (nI (min 999 (H 9 p + 1)))) b (D 1 0) (rg3 D H p) := hHc
  generalize ec : uI σb 90 (10 * b + p) (nI (min 999 (H 9 p + 1))) = σc at hHc
  have fa : Fr (Wm b dr) σ σa := by rw [← ea]; exact F2.uI (by unfold Wm; omega)
  have fb : Fr (Wm b dr) σ σb := by rw [← eb2]; exact fa.uI (by unfold Wm; omega)
  have fc : Fr (Wm b dr) σ σc := by rw [← ec]; exact fb.uI (by unfold Wm; omega)
  have hTc := hT.fr fc (fun x i h => wm_t h)
  have hSc := fc.sg hS
  have c61 : mI σc 59 61 = if st = true then 0 else 1 := ((fc.1 59 61 (by unfold Wm; omega)).1).trans hst
  obtain ⟨_, _, _, _, _, _, _, _, _, _, _, _, c72, _⟩ := id hTc
  -- up to the last choice
  have go : ∀ σ', ((mI σc 72 1 = 0 → (none, σ') = ((none : Option Value), σc)) ∧ (¬ mI σc 72 1 = 0 → ((mI σc 59 61 = 0 → (∃ (σ1 : Mm), Cl 206 [.ref 59, .int (nI b), .int (nI p)] σc (none, σ1) ∧ Sg t σ1 ∧ (∃ (v6 : Int64) (σ4 : Mm), Cl 208 [.ref 59, .int 1] σ1 (some (.long v6), σ4) ∧ Sg t σ4 ∧ ((v6 = 0 → (none, σ') = ((none : Option Value), σ4)) ∧ (¬ (v6 = 0) → (none, σ') = ((none : Option Value), uI σ4 84 b ((mI σ4 84 b) ||| ((1 : Int32) <<< (nI p &&& 31))))))))) ∧ (¬ mI σc 59 61 = 0 → (none, σ') = ((none : Option Value), σc))))) → Cl 210 [.ref 59, .int (nI b), .int (nI p)] σ (none, σ') := by
    intro σ' hw
    refine ck_210 hS (b_210_0 hS ⟨σ1, q1, hS1, inb_nI (by omega) (by decide), ?_⟩)
    rw [ep, hT1.2.2.2.2.2.2.1 p hp]
    refine ⟨_, _, q2, F2.sg hS, ib, ?_⟩
    rw [ei, eb, ex]
    refine ⟨ix, ib, ?_⟩
    intro σ7 e7
    have m82 : mI σ2 82 b = nI (H 1 0) := hH2.1.1
    rw [m82, hH2.2.2.1 p hp, nI_xor, ea] at e7
    subst e7
    have tail : ∀ s0, s0 = nI (min 99999 (H 4 0 + bl (lw D 0 (nmP D H p)) (D 10 p) 999)) → Ev 210 77 [.ref 59, .int (nI b), .int (nI p), .int (nI (10 * b + p)), .int (nI (bl (lw D 0 (nmP D H p)) (D 10 p) 999))] [.int s0, .int (nI b), .ref 85] σ7 (none, σ') := by
      intro s0 e0
      have tail2 : ∀ s1, s1 = nI (min 999 (H 9 p + 1)) → Ev 210 109 [.ref 59, .int (nI b), .int (nI p), .int (nI (10 * b + p)), .int (nI (bl (lw D 0 (nmP D H p)) (D 10 p) 999))] [.int s1, .int (nI (10 * b + p)), .ref 90] σb (none, σ') := by
        intro s1 e1
        refine b_210_109 (fb.sg hS) ⟨ix, ?_⟩
        rw [ex, e1, ec]
        refine ⟨hw.1, fun z => ⟨fun y => ?_, fun y => (hw.2 z).2 y⟩⟩
        obtain ⟨τ1, r1, r2, v6, τ4, r3, r4, r5, r6⟩ := (hw.2 z).1 y
        refine ⟨τ1, r1, r2, v6, τ4, r3, r4, r5, fun x => ⟨ib, ib, ?_⟩⟩
        intro τ7 et
        rw [et, eb]
        exact r6 x
      refine b_210_77 (fa.sg hS) ⟨ib, ix, ?_⟩
      rw [eb, ex, e0, eb2]
      have x9 : mI σb 90 (10 * b + p) = nI (H 9 p) := (hHb.2.2.2 p hp).trans (by rw [hu_n (by omega), hu_n (by omega)])
      rw [x9, nI_1]
      refine pk_lt (H 9 p) 999 (fun z => ⟨ix, tail2 _ ?_⟩) (fun z => tail2 _ ?_) rfl rfl (by omega) (by omega)
      · rw [Nat.min_eq_right (by omega)]
      · rw [Nat.min_eq_left (by omega)]; rfl
    refine b_210_44 (fa.sg hS) ⟨ib, ?_⟩
    rw [eb]
    have x4 : mI σ7 85 b = nI (H 4 0) := hHa.1.2.2.2.1.trans (by rw [hu_n (by omega)])
    rw [x4, nI_add]
    refine pk_lt (H 4 0 + bl (lw D 0 (nmP D H p)) (D 10 p) 999) 99999 (fun z => ⟨ib, tail _ ?_⟩) (fun z => tail _ ?_) rfl rfl (by omega) (by omega)
    · rw [Nat.min_eq_right (by omega)]
    · rw [Nat.min_eq_left (by omega)]; rfl
  have done : mI σc 72 1 = 0 ∨ ¬ mI σc 59 61 = 0 → ∃ σ', Cl 210 [.ref 59, .int (nI b), .int (nI p)] σ (none, σ') ∧ Fr (Wm b dr) σ σ' ∧ MH σ' b (D 1 0) (rg D st H p) := by
    intro hz
    refine ⟨σc, go _ ⟨fun _ => rfl, fun z => ⟨fun y => ?_, fun _ => rfl⟩⟩, fc, ?_⟩
    · rcases hz with g | g
      · exact absurd g z
      · exact absurd y g
    · rw [rg]
      rcases hz with g | g
      · rw [c72 1 (by decide)] at g
        have : lw D 1 (nmP D (rg3 D H p) p) = none := by
          rw [lw, if_neg]
          intro z
          rw [decide_eq_true z] at g
          exact absurd g (by decide)
        rw [this]
        exact hHc
      · cases lw D 1 (nmP D (rg3 D H p) p) with
        | none => exact hHc
        | some v =>
          show MH σc b (D 1 0) (if st = true ∧ v ≠ 0 then hu (rg3 D H p) 3 0 (H 3 0 ||| 2 ^ p) else rg3 D H p)
          rw [if_neg]
          · exact hHc
          · intro z
            rw [c61, if_pos z.1] at g
            exact g rfl
  by_cases cl1 : D 16 1 < D 17 1
  · cases hs : st with
    | false => rw [hs] at c61 done; exact done (Or.inr (by rw [c61]; decide))
    | true =>
      have c61' : mI σc 59 61 = 0 := by rw [c61, hs]; rfl
      obtain ⟨τ1, r1, g1, l2⟩ := c_206 hSc hb hTc hD hHc h3 hp
      have hTd := hTc.fr g1 (fun x i h => by unfold W80; omega)
      obtain ⟨τ4, r3, g2, e4⟩ := c_208t (q := 1) (g1.sg hSc) hTd hD (by omega) cl1 l2 (nmP_lt h3 hD hp)
      have G : Fr (Wm b dr) σ τ4 := fc.tr ((g1.mono w80).tr (g2.mono wlo))
      have hH4 := (hHc.fr hb hP g1 n80).fr hb hP g2 nlo
      have n72 : ¬ mI σc 72 1 = 0 := by
        rw [c72 1 (by decide), decide_eq_true cl1]
        decide
      by_cases c : ∃ v, lw D 1 (nmP D (rg3 D H p) p) = some v ∧ v ≠ 0
      · obtain ⟨v, ev, nv⟩ := c
        refine ⟨uI τ4 84 b (nI (H 3 0 ||| 2 ^ p)), go _ ⟨fun z => absurd z n72, fun _ => ⟨fun _ => ⟨τ1, r1, g1.sg hSc, _, τ4, r3, G.sg hS, fun z => ?_, fun _ => ?_⟩, fun z => absurd c61' z⟩⟩, G.uI (by unfold Wm; omega), ?_⟩
        · rw [ev] at z
          exact absurd z nv
        · have m84 : mI τ4 84 b = nI (H 3 0) := hH4.1.2.2.1
          rw [m84, nI_one (by omega), fa_or]
        · rw [rg, ev]
          show MH _ b (D 1 0) (if true = true ∧ v ≠ 0 then hu (rg3 D H p) 3 0 (H 3 0 ||| 2 ^ p) else rg3 D H p)
          rw [if_pos ⟨rfl, nv⟩]
          exact hH4.f (by omega)
      · refine ⟨τ4, go _ ⟨fun z => absurd z n72, fun _ => ⟨fun _ => ⟨τ1, r1, g1.sg hSc, _, τ4, r3, G.sg hS, fun _ => rfl, fun z => ?_⟩, fun z => absurd c61' z⟩⟩, G, ?_⟩
        · cases ev : lw D 1 (nmP D (rg3 D H p) p) with
          | none => rw [ev] at z; exact absurd rfl z
          | some v => rw [ev] at z; exact absurd ⟨v, ev, z⟩ c
        · rw [rg]
          cases ev : lw D 1 (nmP D (rg3 D H p) p) with
          | none => exact hH4
          | some v =>
            show MH τ4 b (D 1 0) (if true = true ∧ v ≠ 0 then hu (rg3 D H p) 3 0 (H 3 0 ||| 2 ^ p) else rg3 D H p)
            rw [if_neg (fun z => c ⟨v, ev, z.2⟩)]
            exact hH4
  · refine done (Or.inl ?_)
    rw [c72 1 (by decide), decide_eq_false cl1]
    rfl
theorem ag3_WH {P l : Nat} (hW : WH P H) : WH P (ag3 H l) := hW.up (by omega)
theorem ag4_WH {P l : Nat} {dr : Bool} (hW : WH P H) : WH P (ag4 D dr H l) := by
  have hx := nx_lt (H 6 0)
  unfold ag4
  split
  · exact (ag3_WH hW).up (by omega)
  · exact ag3_WH hW
theorem ag_WH {P l : Nat} {dr bu : Bool} (hW : WH P H) (hl : l < 14) : WH P (ag D dr bu H l) := by
  unfold ag
  split
  · exact (ag4_WH hW).up (Or.inr (Or.inl ⟨Or.inr rfl, or_bit hW.2.2.1 hl⟩))
  · exact ag4_WH hW
theorem ag4_2 {l : Nat} {dr : Bool} : ag4 D dr H l 2 0 = H 2 0 := by
  unfold ag4
  split
  · rw [hu_n (by omega)]; exact hu_n (by omega)
  · exact hu_n (by omega)
theorem c_10 {a1 a2 l : Nat} {dr bu : Bool} (hS : Sg t σ) (h1 : a1 = 3 ∨ a1 = 15) (h2 : a2 = 26 ∨ a2 = 30 ∨ a2 = 34) (hT : CT σ a1 D) (hD : WD D) (hH : CH σ a2 H) (hW : WH (D 1 0) H) (hdr : mI σ 38 0 = if dr = true then 1 else 0) (hbu : mI σ 38 1 = if bu = true then 1 else 0) (hl : l < 14) : ∃ σ', Cl 10 [.ref 38, .ref a1, .ref a2, .int (nI l)] σ (none, σ') ∧ Fr (Wru a2) σ σ' ∧ CH σ' a2 (ag D dr bu H l) := by
  have wn : ∀ x i, Wn x i → Wru a2 x i := fun x i h => Or.inr h
  have w7 := hW.2.2.2.2.2.2.1 l
  have h5 := hD.1.2.2.2.2.2.1
  have hHa : CH (uI σ (a2 + 1) l (nI (min 999 (H 7 l + 1)))) a2 (ag3 H l) := hH.r (k := 7) (j := l) (Or.inl rfl)
  have fa : Fr (Wru a2) σ (uI σ (a2 + 1) l (nI (min 999 (H 7 l + 1)))) := (Fr.rf σ).uI (by unfold Wru; omega)
  generalize ea : uI σ (a2 + 1) l (nI (min 999 (H 7 l + 1))) = σa at hHa fa
  have hTa := hT.fr fa (fun x i h3 h4 => by unfold Wru; omega)
  have hWa : WH (D 1 0) (ag3 H l) := ag3_WH hW
  obtain ⟨σb, qb, fb⟩ := c_11l (fa.sg hS) h1 h2 hTa hD hHa hWa hl
  have fb' : Fr (Wru a2) σ σb := fa.tr (fb.mono wn)
  have hSb := fb'.sg hS
  have hTb := hT.fr fb' (fun x i h3 h4 => by unfold Wru; omega)
  have hHb := hHa.fr fb (fun x i h3 h4 => by unfold Wn; omega)
  have hbnd : ∀ v, lw D 2 (nmL (ag3 H l) l) = some v → Bnd v := fun v h => lw_bnd hD (by omega) (nmL_lt hWa) h
  have ho : odd D H l ≤ 100 := bl_le h5 (by decide)
  have e0 : mI σb 38 0 = if dr = true then 1 else 0 := ((fb'.1 38 0 (by unfold Wru; omega)).1).trans hdr
  -- the end, with the draw behind it
  have fin : ∀ σ4 (f : Bool), Fr (Wru a2) σ σ4 → CH σ4 a2 (ag4 D dr H l) → agf D dr H l = f → ∃ σ', (∀ y4 x6, Ev 10 116 [.ref 38, .ref a1, .ref a2, .int (nI l), .long y4, .float 0, .int x6, .int (if f = true then 1 else 0)] [] σ4 (none, σ')) ∧ Fr (Wru a2) σ σ' ∧ CH σ' a2 (ag D dr bu H l) := by
    intro σ4 f f4 h4 ef
    have e1 : mI σ4 38 1 = if bu = true then 1 else 0 := ((f4.1 38 1 (by unfold Wru; omega)).1).trans hbu
    have h := fun w y4 x6 => b_10_116 (w := w) (x3 := nI l) (y4 := y4) (x6 := x6) (x7 := if f = true then 1 else 0) (f4.sg hS) h1 h2
    rw [e1] at h
    by_cases c : bu = true ∧ f = true
    · refine ⟨uI σ4 a2 2 (nI (H 2 0 ||| 2 ^ l)), fun y4 x6 => h _ _ _ (w_b (fun z => absurd c.1 (by rw [z]; decide)) (fun _ => w_b (fun z => absurd c.2 (by rw [z]; decide)) (fun _ => ?_))), f4.uI (by unfold Wru; omega), ?_⟩
      · intro σ5 e5
        rw [e5, nI_one (by omega), h4.1 2 (by decide), ag4_2, fa_or]
      · rw [ag, if_pos (by rw [ef]; exact c)]
        exact h4.f (by decide)
    · refine ⟨σ4, fun y4 x6 => h _ _ _ (w_b (fun _ => rfl) (fun z => w_b (fun _ => rfl) (fun y => absurd ⟨z, y⟩ c))), f4, ?_⟩
      rw [ag, if_neg (by rw [ef]; exact c)]
      exact h4
  have mid : ∃ σ', (∀ y4 z6 z7, Ev 10 59 [.ref 38, .ref a1, .ref a2, .int (nI l), .long y4, .float 0, z6, z7] [.int (nI (odd D H l))] σb (none, σ')) ∧ Fr (Wru a2) σ σ' ∧ CH σ' a2 (ag D dr bu H l) := by
    have h := fun w y4 z6 z7 => b_10_59 (w := w) (x3 := nI l) (y4 := y4) (z6 := z6) (z7 := z7) (s0 := nI (odd D H l)) hSb h1 h2
    rw [e0] at h
    by_cases c : dr = true ∧ 0 < odd D H l ∧ odd D H l < 100
    · have e6 : mI σb a2 6 = nI (H 6 0) := (hHb.1 6 (by decide)).trans (by rw [ag3, hu_n (by omega)])
      have q25 := c_25 hSb h2 e6
      have f5 : Fr (Wru a2) σ (uI σb a2 6 (nI (nx (H 6 0)))) := fb'.uI (by unfold Wru; omega)
      have h5 : CH (uI σb a2 6 (nI (nx (H 6 0)))) a2 (ag4 D dr H l) := by
        rw [ag4, if_pos c]
        exact hHb.f (by decide)
      obtain ⟨σ', g1, g2, g3⟩ := fin _ (decide (nx (H 6 0) / 65536 % 100 < odd D H l)) f5 h5 (by rw [agf, if_pos c])
      refine ⟨σ', fun y4 z6 z7 => h _ _ _ _ (w_b (fun z => absurd c.1 (by rw [z]; decide)) (fun _ => ?_)), g2, g3⟩
      have hx := nx_lt (H 6 0)
      have em : nI (nx (H 6 0) / 65536) - nI (nx (H 6 0) / 65536) / 100 * 100 = nI (nx (H 6 0) / 65536 % 100) := pk_rem (d := 100) (by omega) (by decide) (by decide)
      refine pk_lt 0 (odd D H l) (fun _ => pk_lt (odd D H l) 100 (fun _ => ⟨_, _, q25, f5.sg hS, ?_⟩) (fun z => absurd z (by omega)) rfl rfl (by omega) (by omega)) (fun z => absurd z (by omega)) rfl rfl (by omega) (by omega)
      rw [em]
      refine pk_lt (nx (H 6 0) / 65536 % 100) (odd D H l) (fun z => ?_) (fun z => ?_) rfl rfl (by omega) (by omega)
      · have := g1 y4 (nI (odd D H l))
        rw [decide_eq_true z] at this
        exact this
      · have := g1 y4 (nI (odd D H l))
        rw [decide_eq_false (Nat.not_lt.mpr z)] at this
        exact this
    · have h5 : CH σb a2 (ag4 D dr H l) := by
        rw [ag4, if_neg c]
        exact hHb
      obtain ⟨σ', g1, g2, g3⟩ := fin _ (decide (50 ≤ odd D H l)) fb' h5 (by rw [agf, if_neg c])
      have two : ∀ y4 x6, ((nI (odd D H l) < 50 → Ev 10 116 [.ref 38, .ref a1, .ref a2, .int (nI l), .long y4, .float 0, .int x6, .int 0] [] σb (none, σ')) ∧ (¬ (nI (odd D H l) < 50) → Ev 10 116 [.ref 38, .ref a1, .ref a2, .int (nI l), .long y4, .float 0, .int x6, .int 1] [] σb (none, σ'))) := by
        intro y4 x6
        refine pk_lt (odd D H l) 50 (fun z => ?_) (fun z => ?_) rfl rfl (by omega) (by omega)
        · have := g1 y4 x6
          rw [decide_eq_false (show ¬ 50 ≤ odd D H l by omega)] at this
          exact this
        · have := g1 y4 x6
          rw [decide_eq_true z] at this
          exact this
      exact ⟨σ', fun y4 z6 z7 => h _ _ _ _ (w_b (fun _ => two _ _) (fun zd => pk_lt 0 (odd D H l) (fun z1 => pk_lt (odd D H l) 100 (fun z2 => absurd ⟨zd, z1, z2⟩ c) (fun _ => two _ _) rfl rfl (by omega) (by omega)) (fun _ => two _ _) rfl rfl (by omega) (by omega))), g2, g3⟩
  obtain ⟨σ', g1, g2, g3⟩ := mid
  refine ⟨σ', ck_10 hS h1 h2 (b_10_0 hS h1 h2 ⟨inb_nI hl (by decide), ?_⟩), g2, g3⟩
  rw [nI_clamp (by omega), hH.2.1 l hl, nI_1]
  refine ⟨_, _, c_280n (a := 999) hS (by decide) (by omega), hS, inb_nI hl (by decide), ?_⟩
  rw [ea]
  refine ⟨_, _, qb, hSb, fun z => ?_, fun z => ?_⟩
  · have e5 := (oe_none hbnd).mp z
    have eo : odd D H l = D 5 0 := by rw [odd, e5]; rfl
    rw [eo] at g1
    exact ⟨_, _, c_92 hSb h1 hTb hD, hSb, g1 _ _ _⟩
  · cases ev : lw D 2 (nmL (ag3 H l) l) with
    | none => rw [ev] at z; exact absurd rfl z
    | some v =>
      refine ⟨_, _, c_281 hSb, hSb, _, _, c_279 hSb, hSb, ?_⟩
      have eo : odd D H l = cl v 100 := by rw [odd, ev]; rfl
      have ec : (if (0 : Int64) < (if v < 100 then v else 100) then (if v < 100 then v else 100) else 0) = lN (cl v 100) := cl_c (v := v) (m := 100) (by decide)
      rw [eo] at g1
      show Ev 10 59 _ [.int (Int64.toInt32 (if (0 : Int64) < (if v < 100 then v else 100) then (if v < 100 then v else 100) else 0))] σb _
      rw [ec, lN_i]
      exact g1 _ _ _
theorem c_212 {b l : Nat} {dr bu : Bool} (hS : Sg t σ) (hb : b < 2) (hT : MT σ D) (hD : WD D) (hH : MH σ b (D 1 0) (ag3 H l)) (hW : WH (D 1 0) H) (hdr : mI σ 59 59 = if dr = true then 1 else 0) (hbu : mI σ 59 60 = if bu = true then 0 else 1) (hdb : dr = true → bu = true) (hn : dr = true → mL σ 59 58 = lN (H 6 0)) (hl : l < 14) : ∃ σ', Cl 212 [.ref 59, .int (nI b), .int (nI l)] σ (some (.int (if (bu && agf D dr H l) = true then 1 else 0)), σ') ∧ Fr (fun x i => x = 80 ∨ x = 81 ∨ (x = 59 ∧ i = 48) ∨ (dr = true ∧ x = 59 ∧ i = 58)) σ σ' ∧ (dr = true → mL σ' 59 58 = lN (ag4 D dr H l 6 0)) := by
  have hWa : WH (D 1 0) (ag3 H l) := ag3_WH hW
  have h5 := hD.1.2.2.2.2.2.1
  have ho : odd D H l ≤ 100 := bl_le h5 (by decide)
  cases hbb : bu with
  | false =>
    have nd : ¬ dr = true := fun z => by rw [hdb z] at hbb; cases hbb
    refine ⟨σ, ck_212 hS (b_212_0 hS ?_), Fr.rf σ, fun z => absurd z nd⟩
    rw [hbu, hbb]
    exact ⟨fun z => absurd z (by decide), fun _ => rfl⟩
  | true =>
    obtain ⟨σ1, q1, f1, l1⟩ := c_207 hS hb hT hD hH hWa hl
    have hS1 := f1.sg hS
    have hT1 := hT.fr f1 (fun x i h => by unfold W80; omega)
    obtain ⟨σ2, q2, f2⟩ := c_209 (q := 2) (w := D 5 0) (m := 100) hS1 hT1 hD (by omega) l1 (nmL_lt hWa) (by decide)
    have F2 : Fr (fun x i => x = 80 ∨ x = 81 ∨ (x = 59 ∧ i = 48) ∨ (dr = true ∧ x = 59 ∧ i = 58)) σ σ2 := (f1.mono (fun x i h => Or.inl h)).tr (f2.mono (fun x i h => by unfold Wlo at h; omega))
    have hS2 := F2.sg hS
    have e59 : mI σ2 59 59 = if dr = true then 1 else 0 := ((F2.1 59 59 (by omega)).1).trans hdr
    have e58 : mL σ2 59 58 = mL σ 59 58 := ((f2.1 59 58 (by unfold Wlo; omega)).2).trans ((f1.1 59 58 (by unfold W80; omega)).2)
    -- as the first road goes
    have go : ∀ w, ((odd D H l = 0 ∨ odd D H l = 100) → w = (some (.int (if odd D H l = 100 then 1 else 0)), σ2)) → (¬ (odd D H l = 0 ∨ odd D H l = 100) → ((mI σ2 59 59 = 0 → ((nI (odd D H l) < 50 → (w = (some (.int 0), σ2))) ∧ (¬ (nI (odd D H l) < 50) → (w = (some (.int 1), σ2))))) ∧ (¬ (mI σ2 59 59 = 0) → (∃ (v9 : Int32) (σ7 : Mm), Cl 211 [.ref 59, .int 100] σ2 (some (.int v9), σ7) ∧ Sg t σ7 ∧ ((v9 < nI (odd D H l) → (w = (some (.int 1), σ7))) ∧ (¬ (v9 < nI (odd D H l)) → (w = (some (.int 0), σ7)))))))) → Cl 212 [.ref 59, .int (nI b), .int (nI l)] σ w := by
      intro w ha hb2
      refine ck_212 hS (b_212_0 hS ?_)
      rw [hbu, hbb]
      refine ⟨fun _ => ⟨σ1, q1, hS1, ?_⟩, fun z => absurd rfl z⟩
      rw [hT1.2.1]
      refine ⟨_, _, q2, hS2, ?_⟩
      show (nI (odd D H l) = 0 → _) ∧ _
      have e100 : nI (odd D H l) = 100 ↔ odd D H l = 100 := nI_eq (b := 100) (by omega) (by decide)
      have e00 : nI (odd D H l) = 0 ↔ odd D H l = 0 := nI_i0 (by omega)
      refine w_p e00 (fun z => ?_) (fun z => w_p e100 (fun y => ?_) (fun y => hb2 (fun q => q.elim z y)))
      · refine w_p e100 (fun y => absurd y (by omega)) (fun y => ?_)
        rw [ha (Or.inl z), if_neg y]
      · refine w_p e100 (fun _ => ?_) (fun x => absurd y x)
        rw [ha (Or.inr y), if_pos y]
    by_cases ce : odd D H l = 0 ∨ odd D H l = 100
    · have nc : ¬ (dr = true ∧ 0 < odd D H l ∧ odd D H l < 100) := by omega
      refine ⟨σ2, go _ (fun _ => ?_) (fun z => absurd ce z), F2, fun z => ?_⟩
      · rw [agf, if_neg nc]
        rcases ce with e | e <;> rw [e] <;> rfl
      · rw [e58, hn z, ag4, if_neg nc, ag3, hu_n (by omega)]
    · cases hdd : dr with
      | false =>
        have nc : ¬ (dr = true ∧ 0 < odd D H l ∧ odd D H l < 100) := by rw [hdd]; intro z; exact absurd z.1 (by decide)
        rw [hdd] at nc F2
        refine ⟨σ2, go _ (fun z => absurd z ce) (fun _ => ?_), F2, fun z => by cases z⟩
        rw [e59, hdd]
        refine ⟨fun _ => ?_, fun z => absurd rfl z⟩
        rw [agf, if_neg nc]
        refine pk_lt (odd D H l) 50 (fun z => ?_) (fun z => ?_) rfl rfl (by omega) (by omega)
        · rw [decide_eq_false (show ¬ 50 ≤ odd D H l by omega)]; rfl
        · rw [decide_eq_true z]; rfl
      | true =>
        have yc : (true = true ∧ 0 < odd D H l ∧ odd D H l < 100) := ⟨rfl, by omega, by omega⟩
        rw [hdd] at F2
        have q3 := c_211 (n := H 6 0) (m := 100) hS2 (by decide) (by decide) (e58.trans (hn hdd))
        have F3 : Fr (fun x i => x = 80 ∨ x = 81 ∨ (x = 59 ∧ i = 48) ∨ (true = true ∧ x = 59 ∧ i = 58)) σ (uL σ2 59 58 (lN (nx (H 6 0)))) := F2.uL (Or.inr (Or.inr (Or.inr ⟨rfl, rfl, rfl⟩)))
        refine ⟨uL σ2 59 58 (lN (nx (H 6 0))), go _ (fun z => absurd z ce) (fun _ => ?_), F3, fun _ => ?_⟩
        · rw [e59, hdd]
          refine ⟨fun z => absurd z (by decide), fun _ => ⟨_, _, q3, F3.sg hS, ?_⟩⟩
          rw [agf, if_pos yc]
          refine pk_lt (nx (H 6 0) / 65536 % 100) (odd D H l) (fun z => ?_) (fun z => ?_) rfl rfl (by omega) (by omega)
          · rw [decide_eq_true z]; rfl
          · rw [decide_eq_false (Nat.not_lt.mpr z)]; rfl
        · rw [ag4, if_pos yc, hu_s, mL_uL, if_pos ⟨rfl, rfl⟩]
end Fate
