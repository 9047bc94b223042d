/-! ===== questions: by chance; one more knot; laws, names, pulls, evenings; how likely lamps hold ===== -/
section Q4
variable {t : Nat} {σ : Mm} {D H : Nat → Nat → Nat}
def Wq2 (x i : Nat) : Prop := Wq x i ∨ (x = 59 ∧ i = 58)
theorem Q.fr2 {σ' : Mm} (h : Q t σ D H) (hf : Fr Wq2 σ σ') (hn : mL σ' 59 58 = mL σ 59 58) : Q t σ' D H := by
  have ht := h.tt
  refine ⟨hf.sg h.sg, h.tt, h.2.2.1, ⟨h.ct.fr hf (fun x i h1 h2 h3 => ?_), h.ch.fr hf (fun x i h1 h2 h3 => ?_)⟩, h.mt.fr hf (fun x i h1 h3 => ?_), h.mh.fr (by decide) h.hP hf (fun x i h1 h3 => ?_), hn.trans h.nu⟩
  all_goals
    unfold Wq2 Wq at h3
    omega
theorem wq2_m {x i : Nat} (h : Wm 1 true x i) : Wq2 x i := by
  rcases h with h | h | h | h | h
  · left; unfold Wq; omega
  · left; unfold Wq; omega
  · left; unfold Wq; omega
  · left; unfold Wq; omega
  · right; exact h.2
/-- ten times: the number at hand, how often it burnt -/
def chs (D H : Nat → Nat → Nat) (n l s : Nat) : Nat → Nat × Nat
  | 0 => (s, 0)
  | k + 1 => (mns D true true true true (-1) n (hu H 6 0 (chs D H n l s k).1) 6 0, (chs D H n l s k).2 + if (mns D true true true true (-1) n (hu H 6 0 (chs D H n l s k).1) 2 0).testBit l = true then 1 else 0)
theorem nI_cnt {c n l : Nat} (h : n < 2 ^ 31) (hl : l < 32) : nI c + ((nI n >>> (nI l &&& 31)) &&& 1) = nI (c + if n.testBit l = true then 1 else 0) := by
  rw [nI_bit h hl]
  cases n.testBit l with
  | true => exact nI_add c 1
  | false => exact Int32.add_zero _
theorem q_chance {x y z : Int32} (hq : Q t σ D H) : ∃ v σ1 σ2, Cl 136 [.ref 0, .int x, .int y, .int z] σ (some (.int v), σ1) ∧ Fr Wq σ σ1 ∧ Cl 264 [.ref 59, .int x, .int y, .int z] σ1 (some (.int v), σ2) ∧ Fr Wq2 σ1 σ2 ∧ mL σ2 59 58 = mL σ1 59 58 := by
  have hL := hq.hL
  have hP := hq.hP
  have hmi := hq.mi
  have th2 : ∀ σ, Fr Wq2 σ (uI σ 59 2 0) := fun σ => wq_th.mono (fun _ _ h => Or.inl h)
  by_cases hx : x < 0
  · exact ⟨-1, σ, _, ck_136 hq.sg (b_136_0 hq.sg ⟨fun _ => rfl, fun w => absurd hx w⟩), Fr.rf σ, ck_264 hq.sg (b_264_0 hq.sg ⟨fun _ => rfl, fun w => absurd hx w⟩), th2 σ, rfl⟩
  by_cases hy : y < 1 ∨ 99 < y
  · refine ⟨-1, σ, _, ck_136 hq.sg (b_136_0 hq.sg ⟨fun w => absurd w hx, fun _ => ⟨fun _ => rfl, fun w => ⟨fun _ => rfl, fun v => absurd hy (fun q => q.elim w v)⟩⟩⟩), Fr.rf σ, ck_264 hq.sg (b_264_0 hq.sg ⟨fun w => absurd w hx, fun _ => ⟨_, _, c_152n hq.th.sg hy, hq.th.sg, fun _ => rfl, fun w => absurd rfl w⟩⟩), th2 σ, rfl⟩
  have toL : ∀ {w}, (∃ (v3 : Int32) (σ1 : Mm), Cl 142 [.ref 0, .int z] σ (some (.int v3), σ1) ∧ Sg t σ1 ∧ ((v3 = 0 → (w = (some (.int (-1)), σ1))) ∧ (¬ (v3 = 0) → (∃ (σ4 : Mm), Cl 5 [.ref 38] σ1 (none, σ4) ∧ Sg t σ4 ∧ Ev 136 41 [.ref 0, .int x, .int y, .int z, .int x, .int 0, .int 0] [] σ4 w)))) → Cl 136 [.ref 0, .int x, .int y, .int z] σ w := fun h => ck_136 hq.sg (b_136_0 hq.sg ⟨fun w => absurd w hx, fun _ => ⟨fun w => absurd (Or.inl w) hy, fun _ => ⟨fun w => absurd (Or.inr w) hy, fun _ => h⟩⟩⟩)
  rcases bad_or z (show D 0 0 < 2 ^ 31 by omega) with h | ⟨l, hl, rfl⟩
  · exact ⟨-1, σ, _, toL ⟨_, _, c_142n hq.sg hq.ct.1.1 h, hq.sg, fun _ => rfl, fun w => absurd rfl w⟩, Fr.rf σ, ck_264 hq.sg (b_264_0 hq.sg ⟨fun w => absurd w hx, fun _ => ⟨_, _, c_152y hq.th.sg hy, hq.th.sg, fun w => absurd w n10, fun _ => ⟨_, _, c_199n hq.th.sg hq.th.mt.1.1 h, hq.th.sg, fun _ => rfl, fun w => absurd rfl w⟩⟩⟩), th2 σ, rfl⟩
  obtain ⟨s, hs, rfl⟩ := nI_of hx
  have hy0 : ¬ y < 0 := fun w => by
    apply hy
    left
    rw [fa_lt] at w ⊢
    have w : y.toInt < 0 := w
    show y.toInt < 1
    omega
  obtain ⟨n, hn, rfl⟩ := nI_of hy0
  have hn2 : n ≤ 99 := by
    rcases Nat.lt_or_ge 99 n with g | g
    · exact absurd (Or.inr (nI_lt (a := 99) g hn)) hy
    · exact g
  have hWs : ∀ m, m < 2 ^ 31 → WH (D 1 0) (hu H 6 0 m) := fun m hm => hq.wh.up (by omega)
  have h0s : ∀ m, hu H 6 0 m 0 0 + n < 2 ^ 20 := fun m => by rw [hu_n (by omega)]; omega
  have hck : ∀ k, (chs D H n l s k).1 < 2 ^ 31 := by
    intro k
    induction k with
    | zero => exact hs
    | succ k ih => exact (mns_WH hq.wd (hWs _ ih) n (h0s _)).2.2.2.2.2.1
  have hWk : ∀ k, WH (D 1 0) (mns D true true true true (-1) n (hu H 6 0 (chs D H n l s k).1)) := fun k => mns_WH hq.wd (hWs _ (hck k)) n (h0s _)
  -- the first side
  obtain ⟨σ1, h1, f1, c1⟩ := c_5 hq.sg
  have q1 := hq.fr f1 (fun _ _ h => wq_c h)
  have m1 := cc_cm (dr := true) c1 rfl
  have cls : ∃ σ2, Ev 136 41 [.ref 0, .int (nI s), .int (nI n), .int (nI l), .int (nI s), .int (nI 0), .int (nI 0)] [] σ1 (some (.int (nI (chs D H n l s 10).2)), σ2) ∧ Fr Wq σ1 σ2 := by
    refine lp (fun k σ2 => Fr Wq σ1 σ2 ∧ CM σ2 true true true true (-1)) (fun k σ2 => ∃ σ3, Ev 136 41 [.ref 0, .int (nI s), .int (nI n), .int (nI l), .int (nI (chs D H n l s k).1), .int (nI (chs D H n l s k).2), .int (nI k)] [] σ2 (some (.int (nI (chs D H n l s 10).2)), σ3) ∧ Fr Wq σ1 σ3) 10 ?_ ?_ (k := 0) (Nat.zero_le _) ⟨Fr.rf σ1, m1⟩
    · intro k σ2 hk ⟨f2, m2⟩ ih
      have q2 := q1.fr f2 (fun _ _ h => h)
      obtain ⟨σ3, h3, f3, c3⟩ := c_19 (a := 30) (a1 := 26) q2.sg (Or.inr (Or.inl rfl)) (Or.inl rfl) (by decide) q2.ch
      have c4 : CH (uI σ3 30 6 (nI (chs D H n l s k).1)) 30 (hu H 6 0 (chs D H n l s k).1) := c3.f (by decide)
      have f4 : Fr Wq σ2 (uI σ3 30 6 (nI (chs D H n l s k).1)) := (f3.mono (fun _ _ h => wq_h h)).uI (by unfold Wq; omega)
      have q4 := q2.fr f4 (fun _ _ h => h)
      have m3 : CM σ3 true true true true (-1) := by
        have r : ∀ i, mI σ3 38 i = mI σ2 38 i := fun i => (f3.1 38 i (by unfold Wh; omega)).1
        unfold CM at m2 ⊢
        rw [r 0, r 1, r 2, r 3, r 4]
        exact m2
      have m4 : CM (uI σ3 30 6 (nI (chs D H n l s k).1)) true true true true (-1) := m3
      obtain ⟨σ5, h5, f5, c5⟩ := c_8 (a2 := 30) q4.sg q4.tt (Or.inr (Or.inl rfl)) q4.ct hq.wd c4 (hWs _ (hck k)) m4 (h0s _)
      obtain ⟨σ6, h6, f6⟩ := ih σ5 ⟨f2.tr (f4.tr (f5.mono (fun _ _ h => wq_ru h))), m4.fr (Or.inr (Or.inl rfl)) f5⟩
      have w2 := (hWk k).2.2.1
      refine ⟨σ6, b_136_41 q2.sg (pk_lt k 10 (fun _ => ⟨σ3, h3, f3.sg q2.sg, σ5, h5, f5.sg q4.sg, ?_⟩) (fun w => absurd w (by omega))), f6⟩
      rw [c5.1 6 (by decide), c5.1 2 (by decide), nI_cnt (by omega) (by omega), nI_1]
      exact h6
    · intro σ2 ⟨f2, m2⟩
      exact ⟨σ2, b_136_41 (f2.sg q1.sg) (pk_lt 10 10 (fun w => absurd w (by omega)) (fun _ => rfl)), f2⟩
  obtain ⟨σ2, h2, f2⟩ := cls
  have F : Fr Wq σ σ2 := (f1.mono (fun _ _ h => wq_c h)).tr f2
  have q := hq.fr F (fun _ _ h => h)
  -- the second side
  have mdl : ∃ τ, Ev 264 47 [.ref 59, .int (nI s), .int (nI n), .int (nI l), .long (mL σ2 59 58), .float 0, .int (nI 0), .int (nI 0)] [] (uL (uI σ2 59 2 0) 59 58 (lN s)) (some (.int (nI (chs D H n l s 10).2)), τ) ∧ Fr Wq2 σ2 τ ∧ mL τ 59 58 = mL σ2 59 58 := by
    refine lp (fun k τ => Fr Wq2 σ2 τ ∧ mL τ 59 58 = lN (chs D H n l s k).1) (fun k τ => ∃ τ2, Ev 264 47 [.ref 59, .int (nI s), .int (nI n), .int (nI l), .long (mL σ2 59 58), .float 0, .int (nI (chs D H n l s k).2), .int (nI k)] [] τ (some (.int (nI (chs D H n l s 10).2)), τ2) ∧ Fr Wq2 σ2 τ2 ∧ mL τ2 59 58 = mL σ2 59 58) 10 ?_ ?_ (k := 0) (Nat.zero_le _) ⟨(th2 σ2).uL (Or.inr ⟨rfl, rfl⟩), by rw [mL_uL, if_pos ⟨rfl, rfl⟩]; rfl⟩
    · intro k τ hk ⟨ft, et⟩ ih
      have hSt := ft.sg q.sg
      have mht : MH τ 0 (D 1 0) H := q.mh.fr (by decide) hP ft (fun x i h1 h3 => by unfold Wq2 Wq at h3; omega)
      have mtt : MT τ D := q.mt.fr ft (fun x i h1 h3 => by unfold Wq2 Wq at h3; omega)
      obtain ⟨τ1, g1, e1, mh1, p1⟩ := c_198 hSt hP mht
      have e1' : Fr Wq2 τ τ1 := e1.mono (fun _ _ h => Or.inl (wq_l h))
      have f2' : Fr Wq2 τ (uI τ1 59 59 1) := e1'.uI (Or.inl (by unfold Wq; omega))
      have mt2 : MT (uI τ1 59 59 1) D := mtt.fr f2' (fun x i h1 h3 => by unfold Wq2 Wq at h3; omega)
      have mh2 : MH (uI τ1 59 59 1) 1 (D 1 0) (hu H 6 0 (chs D H n l s k).1) := by
        have a := mh1.six (v := (chs D H n l s k).1)
        exact a.fr (W := fun x i => x = 59) (by decide) hP ((Fr.rf (P := fun x i => x = 59) τ1).uI rfl) (fun x i h h2 => by have h2 : x = 59 := h2; omega)
      have mm2 : MM (uI τ1 59 59 1) true true true true (-1) := by
        refine ⟨?_, ?_, ?_, ?_, ?_⟩
        · simp [mI_uI]
        · simp [mI_uI]; exact p1.2.1
        · simp [mI_uI]; exact p1.2.2.1
        · simp [mI_uI]; exact p1.2.2.2.1
        · simp [mI_uI]; exact p1.2.2.2.2
      have n2 : DN (uI τ1 59 59 1) true (hu H 6 0 (chs D H n l s k).1) := fun _ => by
        rw [hu_s]
        exact ((e1.1 59 58 (by unfold Wl; omega)).2).trans et
      obtain ⟨τ3, g3, e3, mh3, n3⟩ := c_214 (n := n) (f2'.sg hSt) mt2 hq.wd mh2 (hWs _ (hck k)) mm2 (fun _ => rfl) n2 (h0s _)
      have F3 : Fr Wq2 σ2 τ3 := ft.tr (f2'.tr (e3.mono (fun _ _ h => wq2_m h)))
      obtain ⟨τ4, g4, e4⟩ := ih τ3 ⟨F3, n3 rfl⟩
      have w2 := (hWk k).2.2.1
      refine ⟨τ4, b_264_47 hSt (pk_lt k 10 (fun _ => ⟨τ1, g1, e1.sg hSt, τ3, g3, F3.sg q.sg, ?_⟩) (fun w => absurd w (by omega))), e4⟩
      rw [show mI τ3 83 1 = _ from mh3.1.2.1, nI_cnt (by omega) (by omega), nI_1]
      exact g4
    · intro τ ⟨ft, et⟩
      refine ⟨_, b_264_47 (ft.sg q.sg) (pk_lt 10 10 (fun w => absurd w (by omega)) (fun _ => rfl)), (ft.uI (Or.inl (by unfold Wq; omega))).uL (Or.inr ⟨rfl, rfl⟩), ?_⟩
      rw [mL_uL, if_pos ⟨rfl, rfl⟩]
  obtain ⟨τ, g, ft, et⟩ := mdl
  refine ⟨_, σ2, τ, toL ⟨_, _, c_142y hq.sg hq.ct.1.1 (by omega) hl, hq.sg, fun w => absurd w n10, fun _ => ⟨σ1, h1, q1.sg, h2⟩⟩, F, ck_264 q.sg (b_264_0 q.sg ⟨fun w => absurd w hx, fun _ => ⟨_, _, c_152y q.th.sg hy, q.th.sg, fun w => absurd w n10, fun _ => ⟨_, _, c_199y q.th.sg q.th.mt.1.1 (by omega) hl, q.th.sg, fun w => absurd w n10, fun _ => ?_⟩⟩⟩), ft, et⟩
  rw [nI_l hs]
  exact g
/-! one more knot -/
theorem Fr.back {W : Nat → Nat → Prop} {σ' : Mm} {a j : Nat} (h : Fr (fun x i => W x i ∨ (x = a ∧ i = j)) σ σ') (e1 : mI σ' a j = mI σ a j) (e2 : mL σ' a j = mL σ a j) : Fr W σ σ' := by
  refine ⟨fun x i hx => ?_, h.2⟩
  by_cases c : x = a ∧ i = j
  · rw [c.1, c.2]; exact ⟨e1, e2⟩
  · exact h.1 x i (fun z => z.elim hx c)
theorem k_146 (hS : Sg t σ) (ht : t = 3 ∨ t = 15) (hT : CT σ t D) (hD : WD D) (hH : CH σ 26 H) (hW : WH (D 1 0) H) : ∃ σ', Cl 146 [.ref 0] σ (some (.int (nI (bas (fre (D 1 0) (H 3 0)) (H 8) (tn (H 8) (D 1 0)) (D 1 0)))), σ') ∧ Fr W1 σ σ' := by
  have hP := hD.1.2.1
  obtain ⟨σ', r, p, h, f, _⟩ := c_1 (a1 := 28) (Q := D 1 0) (P := D 1 0) (F := fre (D 1 0) (H 3 0)) (ties := H 8) hS rfl ⟨by decide, by decide, by decide⟩ (Nat.le_refl _) hP (fun i hi => hH.2.2.1 i (by omega)) (fun i _ => hW.2.2.2.2.2.2.2.1 i) (Nat.lt_trans (fre_lt hP) (by decide))
  refine ⟨σ', ck_146 hS (b_146_0 hS ⟨_, _, c_21 hS (Or.inl rfl) ht hT.1.2.1 hP (hH.1 3 (by decide)), hS, _, σ', ?_, f.sg hS, rfl⟩), f⟩
  rw [hT.1.2.1]
  exact h
def rk (D H : Nat → Nat → Nat) : Nat := pcn (bas (fre (D 1 0) (H 3 0)) (H 8) (tn (H 8) (D 1 0)) (D 1 0))
def hk (H : Nat → Nat → Nat) (p l : Nat) : Nat → Nat → Nat := hu H 8 p (H 8 p ^^^ 2 ^ l)
def kt (D H : Nat → Nat → Nat) (p l : Nat) : Bool := decide (rk D H < rk D (hk H p l))
theorem rk_le : rk D H ≤ 14 := pcn_le _
theorem hk_3 {p l : Nat} : hk H p l 3 0 = H 3 0 := hu_n (by omega)
theorem hk_WH {p l : Nat} (hW : WH (D 1 0) H) (hp : p < D 1 0) (hl : l < 14) : WH (D 1 0) (hk H p l) := hW.up (Or.inr (Or.inr (Or.inr (Or.inr (Or.inr (Or.inr (Or.inr ⟨rfl, Nat.xor_lt_two_pow (hW.2.2.2.2.2.2.2.1 p) (Nat.pow_lt_pow_right (by decide) hl), hp⟩)))))))
theorem xx (a b : Nat) : (a ^^^ b) ^^^ b = a := by rw [Nat.xor_assoc, Nat.xor_self, Nat.xor_zero]
theorem c_147 {p : Nat} (hq : Q t σ D H) (hp : p < D 1 0) : ∃ σ', Cl 147 [.ref 0, .int (nI p), .int (nI (rk D H))] σ (some (.int (if fa_first (kt D H p) (D 0 0) < D 0 0 then nI (fa_first (kt D H p) (D 0 0)) else -1)), σ') ∧ Fr W1 σ σ' := by
  have hL := hq.hL
  have hP := hq.hP
  suffices h : ∀ z4, ∃ σ', Ev 147 2 [.ref 0, .int (nI p), .int (nI (rk D H)), .int (nI 0), z4] [] σ (some (.int (if fa_first (kt D H p) (D 0 0) < D 0 0 then nI (fa_first (kt D H p) (D 0 0)) else -1)), σ') ∧ Fr W1 σ σ' by
    obtain ⟨σ', h, g⟩ := h (.retAddr 0)
    exact ⟨σ', ck_147 hq.sg (b_147_0 hq.sg h), g⟩
  refine lp (fun l σ1 => Fr W1 σ σ1 ∧ ∀ j, j < l → kt D H p j = false) (fun l σ1 => ∀ z4, ∃ σ', Ev 147 2 [.ref 0, .int (nI p), .int (nI (rk D H)), .int (nI l), z4] [] σ1 (some (.int (if fa_first (kt D H p) (D 0 0) < D 0 0 then nI (fa_first (kt D H p) (D 0 0)) else -1)), σ') ∧ Fr W1 σ σ') (D 0 0) ?_ ?_ (Nat.zero_le _) ⟨Fr.rf σ, fun j hj => absurd hj (Nat.not_lt_zero j)⟩
  · intro l σ1 hl ⟨f1, hno⟩ ih z4
    have q1 := hq.fr f1 (fun _ _ h => wq_1 h)
    have c2 : CH (uI σ1 28 p (nI (H 8 p ^^^ 2 ^ l))) 26 (hk H p l) := q1.ch.r (k := 8) (j := p) (Or.inr (Or.inl rfl))
    have fu : Fr (fun x i => W1 x i ∨ (x = 28 ∧ i = p)) σ1 (uI σ1 28 p (nI (H 8 p ^^^ 2 ^ l))) := (Fr.rf σ1).uI (Or.inr ⟨rfl, rfl⟩)
    have ht := hq.tt
    have T2 : CT (uI σ1 28 p (nI (H 8 p ^^^ 2 ^ l))) t D := q1.ct.fr (W := fun x i => x = 28) ((Fr.rf (P := fun x i => x = 28) σ1).uI rfl) (fun x i h1 h2 h3 => by have h3 : x = 28 := h3; omega)
    have S2 : Sg t (uI σ1 28 p (nI (H 8 p ^^^ 2 ^ l))) := q1.sg
    obtain ⟨σ3, h3, f3⟩ := k_146 S2 hq.tt T2 hq.wd c2 (hk_WH hq.wh hp (by omega))
    have e3 : mI σ3 28 p = nI (H 8 p ^^^ 2 ^ l) := ((f3.1 28 p (by unfold W1; omega)).1).trans (by rw [mI_uI, if_pos ⟨rfl, rfl⟩])
    have F4 : Fr W1 σ1 (uI σ3 28 p (nI (H 8 p))) := by
      refine Fr.back (a := 28) (j := p) ((fu.tr (f3.mono (fun _ _ h => Or.inl h))).uI (Or.inr ⟨rfl, rfl⟩)) ?_ ?_
      · rw [mI_uI, if_pos ⟨rfl, rfl⟩]
        exact (q1.ch.2.2.1 p (by omega)).symm
      · exact (f3.1 28 p (by unfold W1; omega)).2
    have hb := bas_le (F := fre (D 1 0) (hk H p l 3 0)) (ties := hk H p l 8) (tz := tn (hk H p l 8) (D 1 0)) (k := D 1 0)
    have hP2 := p2_le hP
    have hkey : ∀ w, ((kt D H p l = true → w = (some (.int (nI l)), uI σ3 28 p (nI (H 8 p)))) ∧ (kt D H p l = false → Ev 147 2 [.ref 0, .int (nI p), .int (nI (rk D H)), .int (nI (l + 1)), .int (nI (rk D (hk H p l)))] [] (uI σ3 28 p (nI (H 8 p))) w)) → Ev 147 2 [.ref 0, .int (nI p), .int (nI (rk D H)), .int (nI l), z4] [] σ1 w := by
      intro w ⟨ky, kn⟩
      refine b_147_2 q1.sg ?_
      have i10 : inb (nI p) 10 = true := inb_nI (by omega) (by decide)
      have cp : (nI p).toNatClampNeg = p := nI_clamp (by omega)
      rw [q1.ct.1.1, cp, q1.ch.2.2.1 p (by omega), nI_one (by omega), nI_xor, nI_1]
      refine pk_lt l (D 0 0) (fun _ => ⟨i10, i10, fun σ2 e2 => ?_⟩) (fun z => absurd z (by omega)) rfl rfl (by omega) (by omega)
      rw [e2]
      refine ⟨_, σ3, h3, f3.sg S2, _, _, c_276 (f3.sg S2) (by omega), f3.sg S2, i10, i10, fun σ10 e10 => ?_⟩
      rw [e3, nI_xor, xx] at e10
      rw [e10]
      have r1 := rk_le (D := D) (H := H)
      have r2 := rk_le (D := D) (H := hk H p l)
      exact pk_lt (rk D H) (rk D (hk H p l)) (fun z => ky (decide_eq_true z)) (fun z => kn (decide_eq_false (Nat.not_lt.mpr z))) rfl rfl (by omega) (by omega)
    cases hb2 : kt D H p l with
    | true =>
      refine ⟨_, hkey _ ⟨fun _ => ?_, fun z => absurd hb2 (by rw [z]; decide)⟩, f1.tr F4⟩
      rw [first_eq hl hno hb2, if_pos hl]
    | false =>
      obtain ⟨σ', h, g⟩ := ih (uI σ3 28 p (nI (H 8 p))) ⟨f1.tr F4, fun j hj => by
        rcases Nat.lt_or_ge j l with c | c
        · exact hno j c
        · have : j = l := by omega
          subst this; exact hb2⟩ (.int (nI (rk D (hk H p l))))
      exact ⟨σ', hkey _ ⟨fun z => absurd hb2 (by rw [z]; decide), fun _ => h⟩, g⟩
  · intro σ1 ⟨f1, hno⟩ z4
    have q1 := hq.fr f1 (fun _ _ h => wq_1 h)
    refine ⟨σ1, b_147_2 q1.sg ?_, f1⟩
    rw [q1.ct.1.1]
    refine pk_lt (D 0 0) (D 0 0) (fun z => absurd z (Nat.lt_irrefl _)) (fun _ => ?_) rfl rfl (by omega) (by omega)
    rw [if_neg (first_none hno)]
/-- whether a pull has such a lamp -/
def kp (D H : Nat → Nat → Nat) (p : Nat) : Bool := (fre (D 1 0) (H 3 0)).testBit p && decide (fa_first (kt D H p) (D 0 0) < D 0 0)
def kr (D H : Nat → Nat → Nat) (x : Int32) : Int32 := if fa_first (kp D H) (D 1 0) < D 1 0 then (if x = 0 then nI (fa_first (kp D H) (D 1 0)) else nI (fa_first (kt D H (fa_first (kp D H) (D 1 0))) (D 0 0))) else -2
theorem q_knot {x : Int32} (hq : Q t σ D H) : PrI 125 246 [.int x] σ := by
  have hL := hq.hL
  have hP := hq.hP
  by_cases hx : x < 0 ∨ 1 < x
  · exact PrI.mk0 hq (v := -1) (ck_125 hq.sg (b_125_0 hq.sg (w_rb hx rfl))) ⟨_, ck_246 hq.sg (b_246_0 hq.sg ⟨_, _, c_152n hq.th.sg hx, hq.th.sg, fun _ => rfl, fun z => absurd rfl z⟩), wq_th⟩
  have hF := fre_lt (K := H 3 0) hP
  have hP2 := p2_le hP
  have hb := bas_le (F := fre (D 1 0) (H 3 0)) (ties := H 8) (tz := tn (H 8) (D 1 0)) (k := D 1 0)
  have w3 := hq.wh.2.2.2.1
  have r0 := rk_le (D := D) (H := H)
  obtain ⟨σ1, h1, f1⟩ := q_146 hq
  have q1 := hq.fr f1 (fun _ _ h => wq_1 h)
  have c21 := c_21 q1.sg (Or.inl rfl) q1.tt q1.ct.1.2.1 hP (q1.ch.1 3 (by decide))
  have cls : ∃ σ2, (∀ z5, Ev 125 34 [.ref 0, .int x, .int (nI (rk D H)), .int (nI (fre (D 1 0) (H 3 0))), .int (nI 0), z5] [] σ1 (some (.int (kr D H x)), σ2)) ∧ Fr W1 σ1 σ2 := by
    refine lp (fun p σ2 => Fr W1 σ1 σ2 ∧ ∀ j, j < p → kp D H j = false) (fun p σ2 => ∃ σ3, (∀ z5, Ev 125 34 [.ref 0, .int x, .int (nI (rk D H)), .int (nI (fre (D 1 0) (H 3 0))), .int (nI p), z5] [] σ2 (some (.int (kr D H x)), σ3)) ∧ Fr W1 σ1 σ3) (D 1 0) ?_ ?_ (Nat.zero_le _) ⟨Fr.rf σ1, fun j hj => absurd hj (Nat.not_lt_zero j)⟩
    · intro p σ2 hp ⟨f2, hno⟩ ih
      have q2 := q1.fr f2 (fun _ _ h => wq_1 h)
      have nxt : kp D H p = false → ∀ j, j < p + 1 → kp D H j = false := fun h j hj => by
        rcases Nat.lt_or_ge j p with c | c
        · exact hno j c
        · have : j = p := by omega
          subst this; exact h
      have opn : ∀ {w z5}, ((fre (D 1 0) (H 3 0)).testBit p = false → Ev 125 34 [.ref 0, .int x, .int (nI (rk D H)), .int (nI (fre (D 1 0) (H 3 0))), .int (nI (p + 1)), z5] [] σ2 w) → ((fre (D 1 0) (H 3 0)).testBit p = true → (∃ (v3 : Int32) (σ1 : Mm), Cl 147 [.ref 0, .int (nI p), .int (nI (rk D H))] σ2 (some (.int v3), σ1) ∧ Sg t σ1 ∧ ((v3 = (-1) → Ev 125 34 [.ref 0, .int x, .int (nI (rk D H)), .int (nI (fre (D 1 0) (H 3 0))), .int (nI (p + 1)), .int v3] [] σ1 w) ∧ (¬ (v3 = (-1)) → ((x = 0 → (w = (some (.int (nI p)), σ1))) ∧ (¬ (x = 0) → (w = (some (.int v3), σ1)))))))) → Ev 125 34 [.ref 0, .int x, .int (nI (rk D H)), .int (nI (fre (D 1 0) (H 3 0))), .int (nI p), z5] [] σ2 w := by
        intro w z5 ka kb
        refine b_125_34 q2.sg ?_
        rw [q2.ct.1.2.1, nI_1]
        exact pk_lt p (D 1 0) (fun _ => bitc (by omega) (by omega) ka kb) (fun z => absurd z (by omega)) rfl rfl (by omega) (by omega)
      cases hf : (fre (D 1 0) (H 3 0)).testBit p with
      | false =>
        obtain ⟨σ3, h3, f3⟩ := ih σ2 ⟨f2, nxt (by unfold kp; rw [hf]; rfl)⟩
        exact ⟨σ3, fun z5 => opn (fun _ => h3 _) (fun z => absurd hf (by rw [z]; decide)), f3⟩
      | true =>
        obtain ⟨σ4, h4, f4⟩ := c_147 q2 hp
        by_cases c : fa_first (kt D H p) (D 0 0) < D 0 0
        · have kpt : kp D H p = true := by unfold kp; rw [hf, decide_eq_true c]; rfl
          have e := first_eq hp hno kpt
          rw [if_pos c] at h4
          refine ⟨σ4, fun z5 => opn (fun z => absurd hf (by rw [z]; decide)) (fun _ => ⟨_, σ4, h4, f4.sg q2.sg, fun z => ?_, fun _ => ⟨fun y => ?_, fun y => ?_⟩⟩), f2.tr f4⟩
          · rw [fa_eq, nI_toInt (by omega)] at z
            have z : (fa_first (kt D H p) (D 0 0) : Int) = -1 := z
            omega
          · rw [kr, e, if_pos hp, if_pos y]
          · rw [kr, e, if_pos hp, if_neg y]
        · rw [if_neg c] at h4
          obtain ⟨σ3, h3, f3⟩ := ih σ4 ⟨f2.tr f4, nxt (by unfold kp; rw [decide_eq_false c, Bool.and_false])⟩
          exact ⟨σ3, fun z5 => opn (fun z => absurd hf (by rw [z]; decide)) (fun _ => ⟨_, σ4, h4, f4.sg q2.sg, fun _ => h3 _, fun z => absurd rfl z⟩), f3⟩
    · intro σ2 ⟨f2, hno⟩
      refine ⟨σ2, fun z5 => b_125_34 (f2.sg q1.sg) ?_, f2⟩
      rw [(q1.fr f2 (fun _ _ h => wq_1 h)).ct.1.2.1]
      refine pk_lt (D 1 0) (D 1 0) (fun z => absurd z (Nat.lt_irrefl _)) (fun _ => ?_) rfl rfl (by omega) (by omega)
      rw [kr, if_neg (first_none hno)]
  obtain ⟨σ2, h2, f2⟩ := cls
  have F : Fr Wq σ σ2 := (f1.tr f2).mono (fun _ _ h => wq_1 h)
  refine PrI.mk hq (ck_125 hq.sg (b_125_0 hq.sg (w_rg hx ⟨_, σ1, h1, q1.sg, _, _, c_276 q1.sg (by omega), q1.sg, _, _, c21, q1.sg, h2 _⟩))) F (fun _ _ h => h) (fun q => ?_)
  -- the second side
  have wk92 : ∀ {x i}, Wk x i → Wq x i := fun h => by unfold Wk at h; unfold Wq; omega
  obtain ⟨τ1, g1, e1⟩ := c_245 (P := D 1 0) (K := H 3 0) (ties := H 8) q.th.sg q.th.mt.1.2.1 hP q.th.mh.1.2.2.1 (by omega) q.th.mties (fun i _ => hq.hb i)
  have p1 := q.th.fr e1 (fun _ _ h => wk92 h)
  have mdl : ∃ τ2, (∀ z4 z5, Ev 246 23 [.ref 59, .int x, .int (nI (rk D H)), .int (nI 0), z4, z5] [] τ1 (some (.int (kr D H x)), τ2)) ∧ Fr Wk τ1 τ2 := by
    refine lp (fun p τ => Fr Wk τ1 τ ∧ ∀ j, j < p → kp D H j = false) (fun p τ => ∃ τ3, (∀ z4 z5, Ev 246 23 [.ref 59, .int x, .int (nI (rk D H)), .int (nI p), z4, z5] [] τ (some (.int (kr D H x)), τ3)) ∧ Fr Wk τ1 τ3) (D 1 0) ?_ ?_ (Nat.zero_le _) ⟨Fr.rf τ1, fun j hj => absurd hj (Nat.not_lt_zero j)⟩
    · intro p τ hp ⟨f2, hno⟩ ih
      have q2 := p1.fr f2 (fun _ _ h => wk92 h)
      have nxt : kp D H p = false → ∀ j, j < p + 1 → kp D H j = false := fun h j hj => by
        rcases Nat.lt_or_ge j p with c | c
        · exact hno j c
        · have : j = p := by omega
          subst this; exact h
      have m84 : mI τ 84 0 = nI (H 3 0) := q2.mh.1.2.2.1
      have q153 := c_153 (n := H 3 0) (k := p) q2.sg (by omega) (by omega)
      have hfb : (fre (D 1 0) (H 3 0)).testBit p = !((H 3 0).testBit p) := by rw [fre_bit, decide_eq_true hp, Bool.true_and]
      have opn : ∀ {w z4 z5}, ((H 3 0).testBit p = false → Ev 246 50 [.ref 59, .int x, .int (nI (rk D H)), .int (nI p), .int 0, z5] [] τ w) → ((H 3 0).testBit p = true → Ev 246 23 [.ref 59, .int x, .int (nI (rk D H)), .int (nI (p + 1)), z4, z5] [] τ w) → Ev 246 23 [.ref 59, .int x, .int (nI (rk D H)), .int (nI p), z4, z5] [] τ w := by
        intro w z4 z5 ka kb
        refine b_246_23 q2.sg ?_
        rw [q2.mt.1.2.1, nI_1, m84]
        exact pk_lt p (D 1 0) (fun _ => ⟨_, _, q153, q2.sg, w_b ka kb⟩) (fun z => absurd z (by omega)) rfl rfl (by omega) (by omega)
      cases hs : (H 3 0).testBit p with
      | true =>
        obtain ⟨τ3, h3, f3⟩ := ih τ ⟨f2, nxt (by unfold kp; rw [hfb, hs]; rfl)⟩
        exact ⟨τ3, fun z4 z5 => opn (fun z => absurd hs (by rw [z]; decide)) (fun _ => h3 _ _), f3⟩
      | false =>
        have hft : (fre (D 1 0) (H 3 0)).testBit p = true := by rw [hfb, hs]; rfl
        -- lamp by lamp
        have inner : ∃ τ3, (∀ z5, Ev 246 50 [.ref 59, .int x, .int (nI (rk D H)), .int (nI p), .int (nI 0), z5] [] τ (some (.int (kr D H x)), τ3)) ∧ Fr Wk τ1 τ3 := by
          refine lp (fun l τ' => Fr Wk τ τ' ∧ ∀ j, j < l → kt D H p j = false) (fun l τ' => ∃ τ3, (∀ z5, Ev 246 50 [.ref 59, .int x, .int (nI (rk D H)), .int (nI p), .int (nI l), z5] [] τ' (some (.int (kr D H x)), τ3)) ∧ Fr Wk τ1 τ3) (D 0 0) ?_ ?_ (Nat.zero_le _) ⟨Fr.rf τ, fun j hj => absurd hj (Nat.not_lt_zero j)⟩
          · intro l τ' hl ⟨f3, hno3⟩ ih3
            have q3 := q2.fr f3 (fun _ _ h => wk92 h)
            have e89 : mI τ' 89 p = nI (H 8 p) := q3.mties p hp
            have fu : Fr (fun x i => Wk x i ∨ (x = 89 ∧ i = p)) τ' (uI τ' 89 p (nI (H 8 p ^^^ 2 ^ l))) := (Fr.rf τ').uI (Or.inr ⟨rfl, rfl⟩)
            have S4 : Sg t (uI τ' 89 p (nI (H 8 p ^^^ 2 ^ l))) := q3.sg
            have tk : ∀ i, i < D 1 0 → mI (uI τ' 89 p (nI (H 8 p ^^^ 2 ^ l))) 89 i = nI (hk H p l 8 i) := by
              intro i hi
              rw [mI_uI]
              by_cases c : i = p
              · rw [if_pos ⟨rfl, c⟩, c, hk, hu_s]
              · rw [if_neg (fun z => c z.2), hk, hu_n (fun z => c z.2)]; exact q3.mties i hi
            have hWk := hk_WH hq.wh hp (show l < 14 by omega)
            obtain ⟨τ4, h4, f4⟩ := c_245 (P := D 1 0) (K := hk H p l 3 0) (ties := hk H p l 8) S4 (show mI τ' 59 13 = _ from q3.mt.1.2.1) hP (show mI τ' 84 0 = _ by rw [hk_3]; exact q3.mh.1.2.2.1) (by rw [hk_3]; omega) tk (fun i _ => hWk.2.2.2.2.2.2.2.1 i)
            have e4 : mI τ4 89 p = nI (H 8 p ^^^ 2 ^ l) := ((f4.1 89 p (by unfold Wk; omega)).1).trans (by rw [mI_uI, if_pos ⟨rfl, rfl⟩])
            have F5 : Fr Wk τ' (uI τ4 89 p (nI (H 8 p))) := by
              refine Fr.back (a := 89) (j := p) ((fu.tr (f4.mono (fun _ _ h => Or.inl h))).uI (Or.inr ⟨rfl, rfl⟩)) ?_ ?_
              · rw [mI_uI, if_pos ⟨rfl, rfl⟩]; exact e89.symm
              · exact (f4.1 89 p (by unfold Wk; omega)).2
            have hkey : ∀ {w z5}, ((kt D H p l = true → ((x = 0 → w = (some (.int (nI p)), uI τ4 89 p (nI (H 8 p)))) ∧ (¬ x = 0 → w = (some (.int (nI l)), uI τ4 89 p (nI (H 8 p)))))) ∧ (kt D H p l = false → Ev 246 50 [.ref 59, .int x, .int (nI (rk D H)), .int (nI p), .int (nI (l + 1)), .int (nI (rk D (hk H p l)))] [] (uI τ4 89 p (nI (H 8 p))) w)) → Ev 246 50 [.ref 59, .int x, .int (nI (rk D H)), .int (nI p), .int (nI l), z5] [] τ' w := by
              intro w z5 ⟨ky, kn⟩
              refine b_246_50 q3.sg ?_
              have i20 : inb (nI p) 20 = true := inb_nI (by omega) (by decide)
              rw [q3.mt.1.1, nI_clamp (n := p) (by omega), e89, nI_one (by omega), nI_xor, nI_1]
              refine pk_lt l (D 0 0) (fun _ => ⟨i20, i20, fun σ2 e2 => ?_⟩) (fun z => absurd z (by omega)) rfl rfl (by omega) (by omega)
              rw [e2]
              refine ⟨_, τ4, h4, f4.sg S4, i20, i20, fun σ7 e7 => ?_⟩
              rw [e4, nI_xor, xx] at e7
              rw [e7]
              have r2 := rk_le (D := D) (H := hk H p l)
              exact pk_lt (rk D H) (rk D (hk H p l)) (fun z => ky (decide_eq_true z)) (fun z => kn (decide_eq_false (Nat.not_lt.mpr z))) rfl rfl (by omega) (by omega)
            cases hb2 : kt D H p l with
            | true =>
              have ef := first_eq hl hno3 hb2
              have kpt : kp D H p = true := by unfold kp; rw [hft, ef, decide_eq_true hl]; rfl
              have e := first_eq hp hno kpt
              refine ⟨_, fun z5 => hkey ⟨fun _ => ⟨fun y => ?_, fun y => ?_⟩, fun z => absurd hb2 (by rw [z]; decide)⟩, f2.tr (f3.tr F5)⟩
              · rw [kr, e, if_pos hp, if_pos y]
              · rw [kr, e, if_pos hp, if_neg y, ef]
            | false =>
              obtain ⟨τ5, h5, f5⟩ := ih3 (uI τ4 89 p (nI (H 8 p))) ⟨f3.tr F5, fun j hj => by
                rcases Nat.lt_or_ge j l with c | c
                · exact hno3 j c
                · have : j = l := by omega
                  subst this; exact hb2⟩
              exact ⟨τ5, fun z5 => hkey ⟨fun z => absurd hb2 (by rw [z]; decide), fun _ => h5 _⟩, f5⟩
          · intro τ' ⟨f3, hno3⟩
            have q3 := q2.fr f3 (fun _ _ h => wk92 h)
            obtain ⟨τ5, h5, f5⟩ := ih τ' ⟨f2.tr f3, nxt (by unfold kp; rw [decide_eq_false (first_none hno3), Bool.and_false])⟩
            refine ⟨τ5, fun z5 => b_246_50 q3.sg ?_, f5⟩
            rw [q3.mt.1.1, nI_1]
            refine pk_lt (D 0 0) (D 0 0) (fun z => absurd z (Nat.lt_irrefl _)) (fun _ => ?_) rfl rfl (by omega) (by omega)
            rw [nI_1]
            exact h5 _ _
        obtain ⟨τ3, h3, f3⟩ := inner
        exact ⟨τ3, fun z4 z5 => opn (fun _ => h3 _) (fun z => absurd hs (by rw [z]; decide)), f3⟩
    · intro τ ⟨f2, hno⟩
      refine ⟨τ, fun z4 z5 => b_246_23 (f2.sg p1.sg) ?_, f2⟩
      rw [(p1.fr f2 (fun _ _ h => wk92 h)).mt.1.2.1]
      refine pk_lt (D 1 0) (D 1 0) (fun z => absurd z (Nat.lt_irrefl _)) (fun _ => ?_) rfl rfl (by omega) (by omega)
      rw [kr, if_neg (first_none hno)]
  obtain ⟨τ2, g2, e2⟩ := mdl
  exact ⟨τ2, ck_246 q.sg (b_246_0 q.sg ⟨_, _, c_152y q.th.sg hx, q.th.sg, fun z => absurd z n10, fun _ => ⟨_, τ1, g1, p1.sg, g2 _ _⟩⟩), wq_th.tr ((e1.tr e2).mono (fun _ _ h => wk92 h))⟩
end Q4
