/-! ===== what stands between two calls ===== -/
/-- the second side's words -/
def wdl : List Nat := [108, 97, 109, 112, 32, 112, 117, 108, 108, 32, 108, 105, 116, 32, 114, 105, 110, 103, 32, 109, 101, 110, 100, 32, 98, 117, 114, 110, 32, 115, 101, 101, 100, 32, 108, 97, 119, 32, 116, 111, 108, 108, 32, 115, 116, 105, 99, 107, 32, 102, 97, 116, 101, 32, 97, 110, 100, 32, 111, 114, 32, 110, 111, 116, 32, 99, 111, 115, 116, 32, 119, 111, 114, 110, 32, 115, 104, 111, 119, 110, 32, 116, 105, 101, 115, 32, 111, 117, 116, 32, 97, 103, 101, 32, 109, 105, 110, 117, 116, 101, 32]
/-- the tape, the fault -/
def RdI (σ : Mm) : Prop := ∃ n, n ≤ 700 ∧ mI σ 1 2 = nI n ∧ mI σ 59 1 = nI n ∧ mI σ 59 4 = mI σ 1 0 ∧ mI σ 59 5 = mI σ 1 1 ∧ (∀ i, i < n → (∃ b, b < 256 ∧ mI σ 2 i &&& 255 = nI b ∧ mI σ 60 i = nI b)) ∧ ∀ i, i < 101 → mI σ 61 i = nI (wdl.getD i 0)
/-- what is put down of a house, second side -/
def PU (σ : Mm) (a b P : Nat) (G : Nat → Nat → Nat) : Prop := (mI σ a b = nI (G 1 0) ∧ mI σ a (b + 1) = nI (G 2 0) ∧ mI σ a (b + 2) = nI (G 3 0) ∧ mI σ a (b + 3) = nI (G 4 0)) ∧ (∀ i, i < P → mI σ a (b + 4 + i) = nI (G 8 i)) ∧ (∀ i, i < P → mI σ a (b + 14 + i) = nI (G 9 i))
def MIm (σ : Mm) (P : Nat) (I : Nat → Nat → Nat) : Prop := PU σ 97 0 P I ∧ (∀ i, i < 14 → mI σ 98 i = nI (I 7 i)) ∧ mI σ 98 14 = nI (I 5 0) ∧ mI σ 98 15 = nI (I 0 0) ∧ mL σ 59 77 = lN (I 6 0)
def ImI (σ : Mm) (P : Nat) : Prop := ∃ im : Bool, mI σ 0 5 = (if im = true then 1 else 0) ∧ mI σ 59 74 = (if im = true then 1 else 0) ∧ (im = true → ∃ I, CH σ 34 I ∧ MIm σ P I ∧ WH P I ∧ I 0 0 ≤ 9000)
/-- what the first side remembers of one call: q the pull, 10 none -/
def EnD (σ : Mm) (p q : Nat) (X : Nat → Nat → Nat) : Prop := (mI σ 42 p = nI (X 1 0) ∧ mI σ 43 p = nI (X 2 0) ∧ mI σ 44 p = nI (X 3 0) ∧ mI σ 45 p = nI (X 4 0)) ∧ ((q = 10 ∧ mI σ 46 p = -1) ∨ (q < 10 ∧ mI σ 46 p = nI q ∧ mI σ 47 p = nI (X 8 q) ∧ mI σ 48 p = nI (X 9 q)))
def Adj (q : Nat) (X Y : Nat → Nat → Nat) : Prop := (X 0 0 = Y 0 0 ∧ X 5 0 = Y 5 0 ∧ X 6 0 = Y 6 0) ∧ (∀ i, X 7 i = Y 7 i) ∧ ∀ i, i ≠ q → X 8 i = Y 8 i ∧ X 9 i = Y 9 i
def UnI (σ : Mm) (P : Nat) (H : Nat → Nat → Nat) : Prop := ∃ (u nx : Nat) (G : Nat → Nat → Nat → Nat), u ≤ 20 ∧ nx < 20 ∧ mI σ 41 0 = nI u ∧ mI σ 41 1 = nI nx ∧ mI σ 59 72 = nI u ∧ G u = H ∧ ∀ k, k < u → (∃ q, EnD σ ((nx + 20 - u + k) % 20) q (G k) ∧ Adj q (G k) (G (k + 1))) ∧ PU σ 96 (24 * k) P (G k) ∧ WH P (G k)
/-- notes -/
def NtI (σ : Mm) (L P : Nat) : Prop := ∃ (n : Nat) (kx : Int32) (W T : Nat → Nat) (S : Nat → Bool), n ≤ 24 ∧ mI σ 49 0 = nI n ∧ mI σ 59 68 = nI n ∧ mI σ 49 1 = kx ∧ mI σ 59 69 = kx ∧ (kx = -1 ∨ ∃ m, m ≤ n ∧ kx = nI m) ∧ ∀ k, k < n → (mI σ 50 k = nI (W k) ∧ mI σ 51 k = nI (T k) ∧ mI σ 94 (3 * k) = nI (W k) ∧ mI σ 94 (3 * k + 1) = nI (T k)) ∧ ((W k = 0 ∧ T k < L) ∨ (W k = 1 ∧ T k < P) ∨ (W k = 2 ∧ T k < k)) ∧ (W k ≠ 2 → mI σ 52 k = (if S k = true then 1 else 0) ∧ mI σ 94 (3 * k + 2) = (if S k = true then 1 else 0))
def Inv (t : Nat) (σ : Mm) (D H : Nat → Nat → Nat) : Prop := Q t σ D H ∧ RdI σ ∧ ImI σ (D 1 0) ∧ UnI σ (D 1 0) H ∧ NtI σ (D 0 0) (D 1 0)
section Inv
variable {t : Nat} {σ σ' : Mm} {D H : Nat → Nat → Nat} {W : Nat → Nat → Prop}
theorem RdI.fr (h : RdI σ) (hf : Fr W σ σ') (hW : ∀ x i, ((x = 1 ∧ i ≤ 2) ∨ x = 2 ∨ x = 60 ∨ x = 61 ∨ (x = 59 ∧ (i = 1 ∨ i = 4 ∨ i = 5))) → ¬ W x i) : RdI σ' := by
  have r : ∀ x i, ((x = 1 ∧ i ≤ 2) ∨ x = 2 ∨ x = 60 ∨ x = 61 ∨ (x = 59 ∧ (i = 1 ∨ i = 4 ∨ i = 5))) → mI σ' x i = mI σ x i := fun x i h => (hf.1 x i (hW x i h)).1
  obtain ⟨n, h0, h1, h2, h3, h4, h5, h6⟩ := h
  refine ⟨n, h0, (r _ _ (by omega)).trans h1, (r _ _ (by omega)).trans h2, ?_, ?_, fun i hi => ?_, fun i hi => (r 61 i (by omega)).trans (h6 i hi)⟩
  · rw [r 59 4 (by omega), r 1 0 (by omega)]; exact h3
  · rw [r 59 5 (by omega), r 1 1 (by omega)]; exact h4
  · rw [r 2 i (by omega), r 60 i (by omega)]; exact h5 i hi
theorem PU.fr {a b P : Nat} {G : Nat → Nat → Nat} (h : PU σ a b P G) (hP : P ≤ 10) (hf : Fr W σ σ') (hW : ∀ i, b ≤ i → i < b + 24 → ¬ W a i) : PU σ' a b P G := by
  have r : ∀ i, b ≤ i → i < b + 24 → mI σ' a i = mI σ a i := fun i h1 h2 => (hf.1 a i (hW i h1 h2)).1
  obtain ⟨⟨h0, h1, h2, h3⟩, h4, h5⟩ := h
  exact ⟨⟨(r _ (by omega) (by omega)).trans h0, (r _ (by omega) (by omega)).trans h1, (r _ (by omega) (by omega)).trans h2, (r _ (by omega) (by omega)).trans h3⟩, fun i hi => (r _ (by omega) (by omega)).trans (h4 i hi), fun i hi => (r _ (by omega) (by omega)).trans (h5 i hi)⟩
theorem MIm.fr {P : Nat} {I : Nat → Nat → Nat} (h : MIm σ P I) (hP : P ≤ 10) (hf : Fr W σ σ') (hW : ∀ x i, (x = 97 ∨ x = 98 ∨ (x = 59 ∧ i = 77)) → ¬ W x i) : MIm σ' P I := by
  obtain ⟨h0, h1, h2, h3, h4⟩ := h
  have r : ∀ i, mI σ' 98 i = mI σ 98 i := fun i => (hf.1 98 i (hW 98 i (by omega))).1
  exact ⟨h0.fr hP hf (fun i _ _ => hW 97 i (by omega)), fun i hi => (r i).trans (h1 i hi), (r _).trans h2, (r _).trans h3, ((hf.1 59 77 (hW 59 77 (by omega))).2).trans h4⟩
theorem ImI.fr {P : Nat} (h : ImI σ P) (hP : P ≤ 10) (hf : Fr W σ σ') (hW : ∀ x i, ((x = 0 ∧ i = 5) ∨ (34 ≤ x ∧ x ≤ 37) ∨ x = 97 ∨ x = 98 ∨ (x = 59 ∧ (i = 74 ∨ i = 77))) → ¬ W x i) : ImI σ' P := by
  obtain ⟨im, h0, h1, h2⟩ := h
  refine ⟨im, ((hf.1 0 5 (hW 0 5 (by omega))).1).trans h0, ((hf.1 59 74 (hW 59 74 (by omega))).1).trans h1, fun z => ?_⟩
  obtain ⟨I, c, m, w, l⟩ := h2 z
  exact ⟨I, c.fr hf (fun x i h3 h4 => hW x i (by omega)), m.fr hP hf (fun x i h3 => hW x i (by omega)), w, l⟩
theorem EnD.fr {p q : Nat} {X : Nat → Nat → Nat} (h : EnD σ p q X) (hf : Fr W σ σ') (hW : ∀ x, 42 ≤ x → x ≤ 48 → ¬ W x p) : EnD σ' p q X := by
  have r : ∀ x, 42 ≤ x → x ≤ 48 → mI σ' x p = mI σ x p := fun x h1 h2 => (hf.1 x p (hW x h1 h2)).1
  unfold EnD at h ⊢
  rw [r 42 (by omega) (by omega), r 43 (by omega) (by omega), r 44 (by omega) (by omega), r 45 (by omega) (by omega), r 46 (by omega) (by omega), r 47 (by omega) (by omega), r 48 (by omega) (by omega)]
  exact h
theorem UnI.fr {P : Nat} (h : UnI σ P H) (hP : P ≤ 10) (hf : Fr W σ σ') (hW : ∀ x i, ((41 ≤ x ∧ x ≤ 48) ∨ x = 96 ∨ (x = 59 ∧ i = 72)) → ¬ W x i) : UnI σ' P H := by
  have r : ∀ x i, ((41 ≤ x ∧ x ≤ 48) ∨ x = 96 ∨ (x = 59 ∧ i = 72)) → mI σ' x i = mI σ x i := fun x i h => (hf.1 x i (hW x i h)).1
  obtain ⟨u, nx, G, h0, h1, h2, h3, h4, h5, h6⟩ := h
  refine ⟨u, nx, G, h0, h1, (r _ _ (by omega)).trans h2, (r _ _ (by omega)).trans h3, (r _ _ (by omega)).trans h4, h5, fun k hk => ?_⟩
  obtain ⟨⟨q, e, a⟩, p, w⟩ := h6 k hk
  exact ⟨⟨q, e.fr hf (fun x h1 h2 => hW x _ (by omega)), a⟩, p.fr hP hf (fun i _ _ => hW 96 i (by omega)), w⟩
theorem NtI.fr {L P : Nat} (h : NtI σ L P) (hf : Fr W σ σ') (hW : ∀ x i, ((x = 49 ∧ i ≤ 1) ∨ (50 ≤ x ∧ x ≤ 52) ∨ x = 94 ∨ (x = 59 ∧ (i = 68 ∨ i = 69))) → ¬ W x i) : NtI σ' L P := by
  have r : ∀ x i, ((x = 49 ∧ i ≤ 1) ∨ (50 ≤ x ∧ x ≤ 52) ∨ x = 94 ∨ (x = 59 ∧ (i = 68 ∨ i = 69))) → mI σ' x i = mI σ x i := fun x i h => (hf.1 x i (hW x i h)).1
  obtain ⟨n, kx, Wf, T, S, h0, h1, h2, h3, h4, h5, h6⟩ := h
  refine ⟨n, kx, Wf, T, S, h0, (r _ _ (by omega)).trans h1, (r _ _ (by omega)).trans h2, (r _ _ (by omega)).trans h3, (r _ _ (by omega)).trans h4, h5, fun k hk => ?_⟩
  rw [r 50 k (by omega), r 51 k (by omega), r 94 (3 * k) (by omega), r 94 (3 * k + 1) (by omega), r 52 k (by omega), r 94 (3 * k + 2) (by omega)]
  exact h6 k hk
theorem Inv.fr2 (h : Inv t σ D H) (hf : Fr Wq2 σ σ') (hn : mL σ' 59 58 = mL σ 59 58) : Inv t σ' D H := by
  obtain ⟨q, h1, h2, h3, h4⟩ := h
  refine ⟨q.fr2 hf hn, h1.fr hf (fun x i h z => ?_), h2.fr q.hP hf (fun x i h z => ?_), h3.fr q.hP hf (fun x i h z => ?_), h4.fr hf (fun x i h z => ?_)⟩
  all_goals
    unfold Wq2 Wq at z
    omega
theorem Inv.fr (h : Inv t σ D H) (hf : Fr Wq σ σ') : Inv t σ' D H := by
  refine h.fr2 (hf.mono (fun _ _ h => Or.inl h)) ((hf.1 59 58 ?_).2)
  unfold Wq
  omega
/-! fault -/
theorem i_fault {x : Int32} (h : Inv t σ D H) : PrI 103 179 [.int x] σ := by
  obtain ⟨q, ⟨n, h0, h1, h2, h3, h4, h5⟩, _⟩ := h
  refine PrI.mk0 q (v := if x = 0 then mI σ 1 0 else if x = 1 then mI σ 1 1 else -1) (ck_103 q.sg (b_103_0 q.sg ⟨fun z => ?_, fun z => ?_, fun z => ?_⟩)) ⟨_, ck_179 q.sg (b_179_0 q.sg ⟨fun z => ?_, fun z => ⟨fun w => ?_, fun w => ?_⟩⟩), wq_th⟩
  · rw [if_pos z]
  · rw [z]; rfl
  · rw [if_neg z.1, if_neg z.2]
  · rw [if_pos z, mI_uI, if_neg (by omega), h3]
  · rw [if_neg z, if_pos w, mI_uI, if_neg (by omega), h4]
  · rw [if_neg z, if_neg w]
end Inv
