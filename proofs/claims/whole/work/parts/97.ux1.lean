/-! ===== a sum is read, first side ===== -/
def kcl (k : Nat) : Nat := if k = 0 then 38 else kz k
def WS (σ : Mm) : List Nat → Prop
  | [] => True
  | k :: r => mI σ 14 r.length = nI (kcl k) ∧ WS σ r
/-- by how much is open: whether a comparison stands -/
def CBs (cm : Nat) : List Nat → Prop
  | [] => True
  | k :: r => (k = 0 → cm.testBit (nze r) = hCm r) ∧ CBs cm r
def EC (σ : Mm) (a : Nat) (D : Nat → Nat → Nat) (W : List Nat) (c o : Nat) (w mn : Bool) : Prop := (mI σ 1 10 = nI c ∧ mI σ 1 12 = nI W.length ∧ mI σ 1 13 = nI o) ∧ WS σ W ∧ (∃ cm, mI σ 1 14 = nI cm ∧ cm < 2 ^ 9 ∧ cm.testBit (nze W) = hCm W ∧ CBs cm W) ∧ mI σ 1 15 = (if w = true then 1 else 0) ∧ mI σ 1 16 = (if mn = true then 1 else 0) ∧ mI σ a 7 = nI (D 7 0) ∧ ∀ i, i < D 7 0 → mI σ (a + 8) i = nI (D 15 i)
def CF (e : Nat × Nat) (σ : Mm) : Prop := mI σ 1 0 = nI e.1 ∧ mI σ 1 1 = nI e.2
def Wrf (x i : Nat) : Prop := x = 1 ∧ i ≤ 1
def Wvv (a x i : Nat) : Prop := (x = 1 ∧ 10 ≤ i) ∨ (x = a ∧ i = 7) ∨ x = a + 8 ∨ x = 14
def Wx (a x i : Nat) : Prop := (x = 1 ∧ (i ≤ 1 ∨ 10 ≤ i)) ∨ (x = a ∧ i = 7) ∨ x = a + 8 ∨ x = 14
def Wpp (a x i : Nat) : Prop := (x = 1 ∧ i = 12) ∨ (x = a ∧ i = 7) ∨ x = a + 8
theorem wrf_x {a x i : Nat} (h : Wrf x i) : Wx a x i := by unfold Wrf at h; unfold Wx; omega
theorem wv_x {a x i : Nat} (h : Wvv a x i) : Wx a x i := by unfold Wvv at h; unfold Wx; omega
theorem wpp_v {a x i : Nat} (h : Wpp a x i) : Wvv a x i := by unfold Wpp at h; unfold Wvv; omega
def OutC (r : (Nat × Nat) ⊕ Xs) (j a : Nat) (σ : Mm) : Prop := (∀ e, r = .inl e → ∃ σ', Cl j [.ref 1] σ (some (.int 0), σ') ∧ Fr (Wx a) σ σ' ∧ CF e σ') ∧ (∀ y : Xs, r = .inr y → ∃ σ', Cl j [.ref 1] σ (some (.int 1), σ') ∧ Fr (Wvv a) σ σ' ∧ EC σ' a y.2.1 y.2.2.1 y.2.2.2.2.1 y.2.2.2.2.2.1 y.2.2.2.2.2.2.1 y.2.2.2.2.2.2.2)
theorem OutC.no {r : (Nat × Nat) ⊕ Xs} {j a : Nat} {σ : Mm} {e : Nat × Nat} (h : r = .inl e) (g : ∃ σ', Cl j [.ref 1] σ (some (.int 0), σ') ∧ Fr (Wx a) σ σ' ∧ CF e σ') : OutC r j a σ := by
  subst h
  refine ⟨fun e' h => ?_, fun y h => (by cases h)⟩
  injection h with h
  subst h
  exact g
theorem OutC.yes {r : (Nat × Nat) ⊕ Xs} {j a : Nat} {σ : Mm} {p : Nat} {D : Nat → Nat → Nat} {W R : List Nat} {c o : Nat} {w mn : Bool} (h : r = .inr (p, D, W, R, c, o, w, mn)) (g : ∃ σ', Cl j [.ref 1] σ (some (.int 1), σ') ∧ Fr (Wvv a) σ σ' ∧ EC σ' a D W c o w mn) : OutC r j a σ := by
  subst h
  refine ⟨fun e' h => (by cases h), fun y h => ?_⟩
  injection h with h
  subst h
  exact g
def bnf (k : Nat) : Nat := if k = 21 then 1 else if k = 22 then 2 else if k = 23 then 3 else if k = 31 then 5 else if k = 32 then 5 else if k = 33 then 6 else if k = 34 then 6 else if k = 35 then 4 else if k = 36 then 4 else if k = 37 then 4 else if k = 41 then 4 else if k = 42 then 4 else if k = 43 then 4 else 0
theorem bnf_kz : ∀ k, k ≤ 14 → 2 ≤ k → bnf (kz k) = sdg k ∧ kz k ≤ 43 ∧ kz k ≠ 38 := by decide +kernel
theorem bnf_kop : ∀ k, k ≤ 43 → (kop k ≠ 0 → bnf k = sdg (kop k) ∧ k ≠ 23 ∧ kz (kop k) = k) ∧ (kop k = 0 → bnf k = 0 ∨ k = 23) := by decide +kernel
theorem WS.fr {σ σ' : Mm} (h : ∀ i, mI σ' 14 i = mI σ 14 i) : ∀ {W : List Nat}, WS σ W → WS σ' W := by
  intro W
  induction W with
  | nil => intro _; trivial
  | cons k r ih => intro g; exact ⟨(h _).trans g.1, ih g.2⟩
theorem WS.suf {σ : Mm} : ∀ {V W : List Nat}, WS σ (V ++ W) → WS σ W := by
  intro V
  induction V with
  | nil => intro W h; exact h
  | cons k V ih => intro W h; exact ih h.2
theorem WS.push {σ : Mm} {n : Nat} {v : Int32} : ∀ {W : List Nat}, W.length ≤ n → WS σ W → WS (uI σ 14 n v) W := by
  intro W
  induction W with
  | nil => intro _ _; trivial
  | cons k r ih =>
    intro hn h
    simp only [List.length_cons] at hn
    exact ⟨by rw [mI_n (by omega)]; exact h.1, ih (by omega) h.2⟩
theorem CBs.cg {cm cm' : Nat} : ∀ {W : List Nat}, (∀ i, i < nze W → cm'.testBit i = cm.testBit i) → CBs cm W → CBs cm' W := by
  intro W
  induction W with
  | nil => intro _ _; trivial
  | cons k r ih =>
    intro h g
    have e : nze (k :: r) = nze r + (if k = 0 then 1 else 0) := rfl
    rw [e] at h
    refine ⟨fun k0 => ?_, ih (fun i hi => h i (by omega)) g.2⟩
    rw [h (nze r) (by rw [if_pos k0]; omega)]
    exact g.1 k0
theorem CBs.suf {cm : Nat} : ∀ {V W : List Nat}, CBs cm (V ++ W) → CBs cm W := by
  intro V
  induction V with
  | nil => intro W h; exact h
  | cons k V ih => intro W h; exact ih h.2
theorem len_no (W : List Nat) : W.length = nno W + nze W := by
  induction W with
  | nil => rfl
  | cons k r ih =>
    show r.length + 1 = nno r + (if k = 0 then 0 else 1) + (nze r + (if k = 0 then 1 else 0))
    split <;> omega
section ExC
variable {t : Nat} {σ : Mm}
theorem c_40 {e q : Nat} (hS : Sg t σ) (h7 : mI σ 1 7 = nI q) : ∃ σ', Cl 40 [.ref 1, .int (nI e)] σ (some (.int 0), σ') ∧ Fr Wrf σ σ' ∧ CF (e, q) σ' := by
  refine ⟨uI (uI σ 1 0 (nI e)) 1 1 (nI q), ck_40 hS (b_40_0 hS (fun σ1 q1 => ?_)), ((Fr.rf σ).uI ⟨rfl, by decide⟩).uI ⟨rfl, by decide⟩, ?_, mI_s⟩
  · rw [mI_n (by decide), h7] at q1
    rw [q1]
  · rw [mI_n (by decide), mI_s]
theorem c_69 {k : Nat} (hS : Sg t σ) (h : k < 2 ^ 31) : Cl 69 [.int (nI k)] σ (some (.int (nI (bnf k))), σ) := by
  have i : ∀ m, m < 256 → (nI k = nI m ↔ k = m) := fun m hm => nI_eq h (by omega)
  refine ck_69 hS (b_69_0 hS ⟨fun z => ?_, fun z => ?_, fun z => ?_, fun z => ?_, fun z => ?_, fun z => ?_, fun z => ?_, fun z => ?_, fun z => ?_, fun z => ?_, fun z => ?_, fun z => ?_, fun z => ?_, fun z => ?_⟩)
  · rw [(i 21 (by decide)).mp z]; rfl
  · rw [(i 22 (by decide)).mp z]; rfl
  · rw [(i 23 (by decide)).mp z]; rfl
  · rw [(i 31 (by decide)).mp z]; rfl
  · rw [(i 32 (by decide)).mp z]; rfl
  · rw [(i 33 (by decide)).mp z]; rfl
  · rw [(i 34 (by decide)).mp z]; rfl
  · rw [(i 35 (by decide)).mp z]; rfl
  · rw [(i 36 (by decide)).mp z]; rfl
  · rw [(i 37 (by decide)).mp z]; rfl
  · rw [(i 41 (by decide)).mp z]; rfl
  · rw [(i 42 (by decide)).mp z]; rfl
  · rw [(i 43 (by decide)).mp z]; rfl
  · obtain ⟨z1, z2, z3, z4, z5, z6, z7, z8, z9, z10, z11, z12, z13⟩ := z
    have e : bnf k = 0 := by
      unfold bnf
      rw [if_neg (fun e => z1 (by rw [e]; rfl)), if_neg (fun e => z2 (by rw [e]; rfl)), if_neg (fun e => z3 (by rw [e]; rfl)), if_neg (fun e => z4 (by rw [e]; rfl)), if_neg (fun e => z5 (by rw [e]; rfl)), if_neg (fun e => z6 (by rw [e]; rfl)), if_neg (fun e => z7 (by rw [e]; rfl)), if_neg (fun e => z8 (by rw [e]; rfl)), if_neg (fun e => z9 (by rw [e]; rfl)), if_neg (fun e => z10 (by rw [e]; rfl)), if_neg (fun e => z11 (by rw [e]; rfl)), if_neg (fun e => z12 (by rw [e]; rfl)), if_neg (fun e => z13 (by rw [e]; rfl))]
    rw [e]
    rfl
/-- a knot is counted -/
theorem c_65y {c : Nat} (hS : Sg t σ) (h : mI σ 1 10 = nI c) (hc : c < 64) : Cl 65 [.ref 1] σ (some (.int 1), uI σ 1 10 (nI (c + 1))) := by
  refine ck_65 hS (b_65_0 hS ?_)
  rw [h]
  exact pk_lt c 64 (fun _ => by rw [nI_1]) (fun z => absurd z (by omega))
theorem c_65n {q : Nat} (hS : Sg t σ) (h : mI σ 1 10 = nI 64) (h7 : mI σ 1 7 = nI q) : ∃ σ', Cl 65 [.ref 1] σ (some (.int 0), σ') ∧ Fr Wrf σ σ' ∧ CF (2, q) σ' := by
  obtain ⟨σ', d, f, r⟩ := c_40 (e := 2) hS h7
  refine ⟨σ', ck_65 hS (b_65_0 hS ?_), f, r⟩
  rw [h]
  exact ⟨fun z => absurd z (by decide), fun _ => ⟨_, _, d, f.sg hS, Or.inl rfl, rfl⟩⟩
theorem c_66 {m : Nat} {x : Int32} (hS : Sg t σ) (h : mI σ 1 12 = nI m) (hm : m < 72) : Cl 66 [.ref 1, .int x] σ (some (.int 1), uI (uI σ 14 m x) 1 12 (nI (m + 1))) := by
  refine ck_66 hS (b_66_0 hS ?_)
  rw [h]
  refine ⟨fun z => absurd z (nI_pos (by omega)), fun _ => pk_lt m 72 (fun _ => ⟨inb_nI hm (by decide), fun σ4 q4 => ?_⟩) (fun z => absurd z (by omega))⟩
  rw [nI_clamp (by omega), mI_n (by omega), h, nI_1] at q4
  rw [q4]
theorem c_67 {K : Nat} {x : Int32} (hS : Sg t σ) (h : mI σ (18 - t) 7 = nI K) (hK : K < 64) : Cl 67 [.ref 1, .int x] σ (some (.int 1), uI (uI σ (18 - t + 8) K x) (18 - t) 7 (nI (K + 1))) := by
  refine ck_67 hS (b_67_0 hS ?_)
  rw [h]
  refine ⟨fun z => absurd z (nI_pos (by omega)), fun _ => pk_lt K 64 (fun _ => ⟨inb_nI hK (by decide), fun σ4 q4 σ7 q7 => ?_⟩) (fun z => absurd z (by omega))⟩
  rw [nI_clamp (by omega)] at q4
  have e : mI σ4 (18 - t) 7 = nI K := by rw [q4, mI_n (by omega), h]
  rw [e, nI_1, q4] at q7
  rw [q7]
/-- what waits gets its right side -/
theorem c_68 {f l : Nat} {x1 : Int32} (hS : Sg t σ) (hl : (x1 = nI l ∧ 1 ≤ l ∧ l ≤ 6) ∨ (x1 = 0 ∧ l = 1)) : ∀ {W : List Nat} {D : Nat → Nat → Nat} {R : List Nat}, XB f D W R → W.length ≤ 72 → mI σ 1 12 = nI W.length → WS σ W → mI σ (18 - t) 7 = nI (D 7 0) → (∀ i, i < D 7 0 → mI σ (18 - t + 8) i = nI (D 15 i)) → ∃ σ', Cl 68 [.ref 1, .int x1] σ (none, σ') ∧ Fr (Wpp (18 - t)) σ σ' ∧ mI σ' 1 12 = nI (bnd l D W R).2.1.length ∧ mI σ' (18 - t) 7 = nI ((bnd l D W R).1 7 0) ∧ ∀ i, i < (bnd l D W R).1 7 0 → mI σ' (18 - t + 8) i = nI ((bnd l D W R).1 15 i) := by
  have ht := hS.tt
  suffices hh : ∀ (W : List Nat) (D : Nat → Nat → Nat) (R : List Nat) (τ : Mm), Fr (Wpp (18 - t)) σ τ → XB f D W R → W.length ≤ 72 → mI τ 1 12 = nI W.length → WS τ W → mI τ (18 - t) 7 = nI (D 7 0) → (∀ i, i < D 7 0 → mI τ (18 - t + 8) i = nI (D 15 i)) → ∃ σ', Ev 68 0 [.ref 1, .int x1] [] τ (none, σ') ∧ Fr (Wpp (18 - t)) σ σ' ∧ mI σ' 1 12 = nI (bnd l D W R).2.1.length ∧ mI σ' (18 - t) 7 = nI ((bnd l D W R).1 7 0) ∧ ∀ i, i < (bnd l D W R).1 7 0 → mI σ' (18 - t + 8) i = nI ((bnd l D W R).1 15 i) by
    intro W D R h1 h2 h3 h4 h5 h6
    obtain ⟨σ', d, r⟩ := hh W D R σ (Fr.rf σ) h1 h2 h3 h4 h5 h6
    exact ⟨σ', ck_68 hS d, r⟩
  intro W
  induction W with
  | nil =>
    intro D R τ F hX hlen t12 tW t7 tS
    refine ⟨τ, b_68_0 (F.sg hS) ?_, F, t12, t7, tS⟩
    rw [t12]
    exact ⟨fun z => absurd z (by decide), fun _ => rfl⟩
  | cons k W ih =>
    intro D R τ F hX hlen t12 tW t7 tS
    have St := F.sg hS
    have hlen2 : W.length + 1 ≤ 72 := hlen
    have t12 : mI τ 1 12 = nI (W.length + 1) := t12
    have e1 : nI (W.length + 1) - 1 = nI W.length := by rw [show (1 : Int32) = nI 1 from rfl, pk_sub (by omega)]; rfl
    have p0 : (0 : Int32) < nI (W.length + 1) := nI_lt (a := 0) (by omega) (by omega)
    have hin : inb (nI W.length) 72 = true := inb_nI (by omega) (by decide)
    have tk : mI τ 14 (nI W.length).toNatClampNeg = nI (kcl k) := by rw [nI_clamp (by omega)]; exact tW.1
    rcases hX.2.2.1.1 with k0 | ⟨k2, k14⟩
    · -- a bracket
      have eb : bnd l D (k :: W) R = (D, k :: W, R) := by
        refine if_neg ?_
        rw [k0]
        show ¬ l ≤ 0
        rcases hl with g | g <;> omega
      rw [eb]
      refine ⟨τ, b_68_0 St ?_, F, t12, t7, tS⟩
      rw [t12, e1, tk, k0]
      exact ⟨fun _ => ⟨hin, fun _ => rfl, fun z => absurd rfl z⟩, fun z => absurd p0 z⟩
    · have k0 : k ≠ 0 := by omega
      obtain ⟨z1, z2, z3⟩ := bnf_kz k k14 k2
      have ek : kcl k = kz k := if_neg k0
      have c1 := c_69 (σ := τ) (k := kz k) St (by omega)
      rw [z1] at c1
      have s6 := sdg_le k
      have n38 : ¬ nI (kz k) = 38 := fun z => z3 ((nI_eq (b := 38) (by omega) (by decide)).mp z)
      by_cases g : l ≤ sdg k
      · obtain ⟨hone, hK⟩ := hX.one k0
        -- one step
        have F2 : Fr (Wpp (18 - t)) σ (uI τ 1 12 (nI W.length)) := F.uI (Or.inl ⟨rfl, rfl⟩)
        have c2 := c_67 (σ := uI τ 1 12 (nI W.length)) (K := D 7 0) (x := nI (10000 + kz k)) (F2.sg hS) (by rw [mI_n (by omega), t7]) hK
        have F3 : Fr (Wpp (18 - t)) σ (uI (uI (uI τ 1 12 (nI W.length)) (18 - t + 8) (D 7 0) (nI (10000 + kz k))) (18 - t) 7 (nI (D 7 0 + 1))) := (F2.uI (Or.inr (Or.inr rfl))).uI (Or.inr (Or.inl ⟨rfl, rfl⟩))
        generalize eυ : uI (uI (uI τ 1 12 (nI W.length)) (18 - t + 8) (D 7 0) (nI (10000 + kz k))) (18 - t) 7 (nI (D 7 0 + 1)) = υ at c2 F3
        have u12 : mI υ 1 12 = nI W.length := by rw [← eυ, mI_n (by omega), mI_n (by omega), mI_s]
        have u7 : mI υ (18 - t) 7 = nI (D 7 0 + 1) := by rw [← eυ, mI_s]
        have uS : ∀ i, i < D 7 0 + 1 → mI υ (18 - t + 8) i = nI (if i = D 7 0 then 10000 + kz k else D 15 i) := by
          intro i hi
          rw [← eυ, mI_n (by omega)]
          by_cases e : i = D 7 0
          · rw [if_pos e, e, mI_s]
          · rw [if_neg e, mI_n (by omega), mI_n (by omega)]
            exact tS i (by omega)
        have uW : WS υ W := by
          refine WS.fr (fun i => ?_) tW.2
          rw [← eυ, mI_n (by omega), mI_n (by omega), mI_n (by omega)]
        have fin : ∀ (D' : Nat → Nat → Nat) (R' : List Nat), bnd l D (k :: W) R = bnd l D' W R' → XB f D' W R' → D' 7 0 = D 7 0 + 1 → (∀ i, D' 15 i = if i = D 7 0 then 10000 + kz k else D 15 i) → ∃ σ', Ev 68 0 [.ref 1, .int x1] [] τ (none, σ') ∧ Fr (Wpp (18 - t)) σ σ' ∧ mI σ' 1 12 = nI (bnd l D (k :: W) R).2.1.length ∧ mI σ' (18 - t) 7 = nI ((bnd l D (k :: W) R).1 7 0) ∧ ∀ i, i < (bnd l D (k :: W) R).1 7 0 → mI σ' (18 - t + 8) i = nI ((bnd l D (k :: W) R).1 15 i) := by
          intro D' R' eq hX' e7 e15
          obtain ⟨σ', d, r⟩ := ih D' R' υ F3 hX' (by omega) u12 uW (by rw [e7]; exact u7) (fun i hi => by rw [e15]; exact uS i (by omega))
          rw [eq]
          refine ⟨σ', b_68_0 St ?_, r⟩
          rw [t12, e1, tk, ek]
          refine ⟨fun _ => ⟨hin, fun z => absurd z n38, fun _ => ⟨hin, _, _, c1, St, fun z => ?_, fun _ => ?_⟩⟩, fun z => absurd p0 z⟩
          · rcases hl with ⟨g1, g2, g3⟩ | ⟨g1, g2⟩
            · rw [g1] at z; exact absurd z (nI_nlt g (by omega))
            · rw [g1] at z; exact absurd z (nI_pos (by omega))
          · rw [t12, e1, mI_s, nI_clamp (by omega), mI_n (by omega), tW.1, ek, show (10000 : Int32) = nI 10000 from rfl, nI_add]
            exact ⟨hin, _, _, c2, F3.sg hS, d⟩
        rcases hone with ⟨e2, x, r, eR, hX'⟩ | ⟨k3, _, y, x, r, eR, hX'⟩
        · refine fin _ _ ?_ hX' grw_7 (fun i => by rw [grw_15, e2]; rfl)
          show (if l ≤ sdg k then (if k = 2 then bnd l (grw D 2 (R.getD 0 0) 0 10023) W (D 7 0 :: R.drop 1) else _) else _) = _
          rw [if_pos g, if_pos e2, eR]
          rfl
        · refine fin _ _ ?_ hX' grw_7 (fun i => grw_15 i)
          show (if l ≤ sdg k then (if k = 2 then _ else bnd l (grw D k (R.getD 1 0) (R.getD 0 0) (10000 + kz k)) W (D 7 0 :: R.drop 2)) else _) = _
          rw [if_pos g, if_neg (by omega), eR]
          rfl
      · have eb : bnd l D (k :: W) R = (D, k :: W, R) := if_neg g
        rw [eb]
        refine ⟨τ, b_68_0 St ?_, F, t12, t7, tS⟩
        rw [t12, e1, tk, ek]
        refine ⟨fun _ => ⟨hin, fun z => absurd z n38, fun _ => ⟨hin, _, _, c1, St, fun _ => rfl, fun z => ?_⟩⟩, fun z => absurd p0 z⟩
        rcases hl with ⟨g1, g2, g3⟩ | ⟨g1, g2⟩
        · rw [g1] at z; exact absurd (nI_lt (by omega) (by omega)) z
        · have := sdg_pos k2; omega
end ExC
