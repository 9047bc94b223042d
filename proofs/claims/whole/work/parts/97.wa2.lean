/-! ===== notes: first side, looking over all sets ===== -/
section Wa2
variable {t : Nat} {σ : Mm} {L P K : Nat} {W T : Nat → Nat} {S : Nat → Bool}
theorem c_275 {n : Nat} (hS : Sg t σ) (h : n < 2 ^ 14) (h0 : 0 < n) : Cl 275 [.int (nI n)] σ (some (.int (nI (tz n))), σ) := by
  obtain ⟨q, hq⟩ : ∃ q, q = (n - 1) ^^^ ((n - 1) &&& n) := ⟨_, rfl⟩
  have q14 : q < 2 ^ 14 := by
    rw [hq]; exact Nat.xor_lt_two_pow (by omega) (Nat.lt_of_le_of_lt Nat.and_le_right h)
  have e : (nI n ^^^ (-1)) &&& (nI n - 1) = nI q := by
    rw [Int32.and_comm, show nI n - 1 = nI (n - 1) from pk_sub (a := n) (b := 1) (by omega), nI_andn, hq]
  refine ck_275 hS (b_275_0 hS ?_)
  rw [e]
  have l3 : ∀ m c : Nat, m ≤ 256 → c ≤ 31 → (if 4 < m then c + 2 + m / 4 / 2 else c + m / 2) = tz n → Ev 275 62 [.int (nI m), .int (nI c)] [] σ (some (.int (nI (tz n))), σ) := by
    intro m c hm hc e
    refine b_275_62 hS (pk_lt 4 m (fun z => ?_) (fun z => ?_) rfl rfl (by omega) (by omega))
    · rw [if_pos z] at e
      have e1 := nI_ushr (n := m) (k := 2) (by omega) (by decide)
      have e2 := nI_ushr (n := m / 2 ^ 2) (k := 1) (by omega) (by decide)
      rw [show (1 : Int32) = nI 1 from rfl, show (2 : Int32) = nI 2 from rfl, e1, e2, nI_add, nI_add, ← e]
    · rw [if_neg (by omega)] at e
      have e1 := nI_ushr (n := m) (k := 1) (by omega) (by decide)
      rw [show (1 : Int32) = nI 1 from rfl, e1, nI_add, ← e]
  have et : q ≠ 0 → tz n = (if 4 < (if 256 < q then (if 16 < q / 256 then (q / 256 / 16, 13) else (q / 256, 9)) else (if 16 < q then (q / 16, 5) else (q, 1))).1 then (if 256 < q then (if 16 < q / 256 then (q / 256 / 16, 13) else (q / 256, 9)) else (if 16 < q then (q / 16, 5) else (q, 1))).2 + 2 + (if 256 < q then (if 16 < q / 256 then (q / 256 / 16, 13) else (q / 256, 9)) else (if 16 < q then (q / 16, 5) else (q, 1))).1 / 4 / 2 else (if 256 < q then (if 16 < q / 256 then (q / 256 / 16, 13) else (q / 256, 9)) else (if 16 < q then (q / 16, 5) else (q, 1))).2 + (if 256 < q then (if 16 < q / 256 then (q / 256 / 16, 13) else (q / 256, 9)) else (if 16 < q then (q / 16, 5) else (q, 1))).1 / 2) := fun z => by
    unfold tz
    rw [← hq]
    exact if_neg z
  refine pk_lt 0 q (fun z0 => pk_lt 65536 q (fun z => absurd z (by omega)) (fun _ => ?_) rfl rfl (by omega) (by omega)) (fun z => ?_) rfl rfl (by omega) (by omega)
  · have et := et (by omega)
    refine b_275_34 hS (pk_lt 256 q (fun z => ?_) (fun z => ?_) rfl rfl (by omega) (by omega))
    · have e1 := nI_ushr (n := q) (k := 8) (by omega) (by decide)
      rw [if_pos z] at et
      rw [show (8 : Int32) = nI 8 from rfl, e1]
      refine pk_lt 16 (q / 2 ^ 8) (fun y => ?_) (fun y => ?_) rfl rfl (by omega) (by omega)
      · have e2 := nI_ushr (n := q / 2 ^ 8) (k := 4) (by omega) (by decide)
        rw [show (4 : Int32) = nI 4 from rfl, e2]
        have y' : 16 < q / 256 := y
        rw [if_pos y'] at et
        exact l3 (q / 2 ^ 8 / 2 ^ 4) 13 (by omega) (by decide) et.symm
      · have y' : ¬ 16 < q / 256 := by omega
        rw [if_neg y'] at et
        exact l3 (q / 2 ^ 8) 9 (by omega) (by decide) et.symm
    · rw [if_neg (show ¬ 256 < q by omega)] at et
      refine pk_lt 16 q (fun y => ?_) (fun y => ?_) rfl rfl (by omega) (by omega)
      · have e2 := nI_ushr (n := q) (k := 4) (by omega) (by decide)
        rw [show (4 : Int32) = nI 4 from rfl, e2]
        rw [if_pos y] at et
        exact l3 (q / 2 ^ 4) 5 (by omega) (by decide) et.symm
      · rw [if_neg (show ¬ 16 < q by omega)] at et
        exact l3 q 1 (by omega) (by decide) et.symm
  · have : q = 0 := by omega
    have e0 : tz n = 0 := by
      unfold tz
      rw [← hq]
      exact if_pos this
    rw [e0, this]; rfl
/-- a set fits what is known -/
def fx (W T : Nat → Nat) (S : Nat → Bool) (K : Nat) (g : Nat → Nat) (s : Nat) : Bool := fb W T S (sx W T K K) (g s) s K
def Wnn (x i : Nat) : Prop := x = 49 ∧ 2 ≤ i
def Wn4 (x i : Nat) : Prop := x = 49 ∧ 2 ≤ i ∧ i ≤ 5
/-- what looking over k sets leaves -/
def Lk (σ : Mm) (f : Nat → Bool) (g : Nat → Nat) (k : Nat) : Prop := mI σ 49 2 = nI (aA f (fun s => s) k) ∧ mI σ 49 3 = nI (oO f (fun s => s) k) ∧ mI σ 49 4 = nI (aA f g k) ∧ mI σ 49 5 = nI (oO f g k)
theorem Lk.no {f : Nat → Bool} {g : Nat → Nat} {k : Nat} (h : Lk σ f g k) (hf : ¬ f k = true) : Lk σ f g (k + 1) := by
  have ea : ∀ g : Nat → Nat, aA f g (k + 1) = aA f g k := fun g => if_neg hf
  have eo : ∀ g : Nat → Nat, oO f g (k + 1) = oO f g k := fun g => if_neg hf
  unfold Lk
  rw [ea, ea, eo, eo]
  exact h
theorem Lk.yes {f : Nat → Bool} {g : Nat → Nat} {k : Nat} (h : Lk σ f g k) (hf : f k = true) : Lk (uI (uI (uI (uI σ 49 2 (nI (aA f (fun s => s) k) &&& nI k)) 49 3 (nI (oO f (fun s => s) k) ||| nI k)) 49 4 (nI (aA f g k) &&& nI (g k))) 49 5 (nI (oO f g k) ||| nI (g k))) f g (k + 1) := by
  have ea : ∀ g : Nat → Nat, aA f g (k + 1) = aA f g k &&& g k := fun g => if_pos hf
  have eo : ∀ g : Nat → Nat, oO f g (k + 1) = oO f g k ||| g k := fun g => if_pos hf
  unfold Lk
  rw [ea, ea, eo, eo, fa_and, fa_and, fa_or, fa_or]
  refine ⟨?_, ?_, ?_, ?_⟩
  · rw [mI_n (by omega), mI_n (by omega), mI_n (by omega), mI_s]
  · rw [mI_n (by omega), mI_n (by omega), mI_s]
  · rw [mI_n (by omega), mI_s]
  · rw [mI_s]
theorem c_31 {lit : Nat} {tz : Nat → Nat} {N : Nat} (hS : Sg t σ) (hL : L ≤ 14) (hP : P ≤ 10) (h : NK σ L P K W T S) (hN : N ≤ 1024) (h0 : mI σ 53 0 = nI N) (h4 : ∀ s, s < N → mI σ 54 s = nI (tz s)) (hl : ∀ s, lit ^^^ tz s < 2 ^ 14) :
    ∃ σ', Cl 31 [.ref 49, .ref 53, .int (nI lit)] σ (some (.int (nI (fa_cnt (fx W T S K (fun s => lit ^^^ tz s)) N))), σ') ∧ Fr Wnn σ σ' ∧ Lk σ' (fx W T S K (fun s => lit ^^^ tz s)) (fun s => lit ^^^ tz s) N := by
  obtain ⟨σ1, g1, f1, m1⟩ := c_33 hS hL hP h
  have hS1 := f1.sg hS
  obtain ⟨f, hf⟩ : ∃ f, f = fx W T S K (fun s => lit ^^^ tz s) := ⟨_, rfl⟩
  have fF : ∀ s, fb W T S (sx W T K K) (lit ^^^ tz s) s K = f s := fun s => by rw [hf]; rfl
  rw [← hf]
  have r3 : ∀ σ', Fr Wn4 σ1 σ' → Fr Wnn σ σ' := fun σ' hf => (f1.mono (fun x i h => ⟨h.1, by unfold Wnm at h; omega⟩)).tr (hf.mono (fun x i h => ⟨h.1, h.2.1⟩))
  have lo : ∀ k σ2 z5, k ≤ N → Fr Wn4 σ1 σ2 ∧ Lk σ2 f (fun s => lit ^^^ tz s) k → ∃ σ', Ev 31 29 [.ref 49, .ref 53, .int (nI lit), .int (nI (fa_cnt f k)), .int (nI k), z5] [] σ2 (some (.int (nI (fa_cnt f N))), σ') ∧ Fr Wnn σ σ' ∧ Lk σ' f (fun s => lit ^^^ tz s) N := by
    intro k σ2 z5 hk hI
    revert z5
    refine lp (fun k σ2 => Fr Wn4 σ1 σ2 ∧ Lk σ2 f (fun s => lit ^^^ tz s) k) (fun k σ2 => ∀ z5, ∃ σ', Ev 31 29 [.ref 49, .ref 53, .int (nI lit), .int (nI (fa_cnt f k)), .int (nI k), z5] [] σ2 (some (.int (nI (fa_cnt f N))), σ') ∧ Fr Wnn σ σ' ∧ Lk σ' f (fun s => lit ^^^ tz s) N) N ?_ ?_ hk hI
    · intro k σ2 hk ⟨hf2, hL2⟩ ih z5
      have hS2 := hf2.sg hS1
      have a0 : mI σ2 53 0 = nI N := (((r3 _ hf2).1 53 0 (fun z => absurd z.1 (by decide))).1).trans h0
      have a4 : mI σ2 54 k = nI (tz k) := (((r3 _ hf2).1 54 k (fun z => absurd z.1 (by decide))).1).trans (h4 k hk)
      have m2 : Mk σ2 W T S (sx W T K K) K 0 := m1.fr hf2 (fun i h1 h2 z => by unfold Wn4 at z; omega)
      have c32 := c_32 (o := lit ^^^ tz k) (s := k) hS2 m2 (by have := hl k; omega) (by omega)
      rw [fF] at c32
      cases fk : f k with
      | false =>
        obtain ⟨σ', g, g2⟩ := ih σ2 ⟨hf2, hL2.no (by rw [fk]; decide)⟩ (.int (nI (lit ^^^ tz k)))
        refine ⟨σ', b_31_29 hS2 ?_, g2⟩
        rw [a0, nI_clamp (by omega), a4, nI_xor]
        rw [fk] at c32
        refine pk_lt k N (fun _ => pk_lt k 1024 (fun _ => ⟨inb_nI (by omega) (by decide), _, σ2, c32, hS2, fun _ => ?_, fun z => absurd rfl z⟩) (fun z => absurd z (by omega)) rfl rfl (by omega) (by omega)) (fun z => absurd z (by omega)) rfl rfl (by omega) (by omega)
        rw [fa_cnt_no fk] at g
        rw [nI_1]; exact g
      | true =>
        have hy := hL2.yes fk
        have f5 : Fr Wn4 σ1 (uI (uI (uI (uI σ2 49 2 (nI (aA f (fun s => s) k) &&& nI k)) 49 3 (nI (oO f (fun s => s) k) ||| nI k)) 49 4 (nI (aA f (fun s => lit ^^^ tz s) k) &&& nI (lit ^^^ tz k))) 49 5 (nI (oO f (fun s => lit ^^^ tz s) k) ||| nI (lit ^^^ tz k))) := (((hf2.uI ⟨rfl, by omega⟩).uI ⟨rfl, by omega⟩).uI ⟨rfl, by omega⟩).uI ⟨rfl, by omega⟩
        obtain ⟨σ', g, g2⟩ := ih _ ⟨f5, hy⟩ (.int (nI (lit ^^^ tz k)))
        refine ⟨σ', b_31_29 hS2 ?_, g2⟩
        rw [a0, nI_clamp (by omega), a4, nI_xor]
        rw [fk] at c32
        refine pk_lt k N (fun _ => pk_lt k 1024 (fun _ => ⟨inb_nI (by omega) (by decide), _, σ2, c32, hS2, fun z => absurd z (by decide), fun _ => ?_⟩) (fun z => absurd z (by omega)) rfl rfl (by omega) (by omega)) (fun z => absurd z (by omega)) rfl rfl (by omega) (by omega)
        intro σ4 e4 σ7 e7 σ10 e10
        have e4 : σ4 = uI (uI σ2 49 2 (nI (aA f (fun s => s) k) &&& nI k)) 49 3 (nI (oO f (fun s => s) k) ||| nI k) := by
          rw [e4, mI_n (by omega), hL2.1, hL2.2.1]
        have e7 : σ7 = uI σ4 49 4 (nI (aA f (fun s => lit ^^^ tz s) k) &&& nI (lit ^^^ tz k)) := by
          rw [e7, e4, mI_n (by omega), mI_n (by omega), hL2.2.2.1]
        have e10 : σ10 = uI σ7 49 5 (nI (oO f (fun s => lit ^^^ tz s) k) ||| nI (lit ^^^ tz k)) := by
          rw [e10, e7, e4, mI_n (by omega), mI_n (by omega), mI_n (by omega), hL2.2.2.2]
        rw [e10, e7, e4, nI_1, nI_1]
        rw [fa_cnt_yes fk] at g
        exact g
    · intro σ2 ⟨hf2, hL2⟩ z5
      refine ⟨σ2, b_31_29 (hf2.sg hS1) ?_, r3 _ hf2, hL2⟩
      have a0 : mI σ2 53 0 = nI N := (((r3 _ hf2).1 53 0 (fun z => absurd z.1 (by decide))).1).trans h0
      rw [a0]
      exact pk_lt N N (fun z => absurd z (Nat.lt_irrefl _)) (fun _ => rfl) rfl rfl (by omega) (by omega)
  obtain ⟨σ', g, g2⟩ := lo 0 (uI (uI (uI (uI σ1 49 2 (-1)) 49 3 0) 49 4 (-1)) 49 5 0) (.retAddr 0) (Nat.zero_le _) ⟨((((Fr.rf σ1).uI ⟨rfl, by omega⟩).uI ⟨rfl, by omega⟩).uI ⟨rfl, by omega⟩).uI ⟨rfl, by omega⟩, by
    refine ⟨?_, ?_, ?_, ?_⟩
    · rw [mI_n (by omega), mI_n (by omega), mI_n (by omega), mI_s]; show (-1 : Int32) = nI 4294967295; decide
    · rw [mI_n (by omega), mI_n (by omega), mI_s]; rfl
    · rw [mI_n (by omega), mI_s]; show (-1 : Int32) = nI 4294967295; decide
    · rw [mI_s]; rfl⟩
  refine ⟨σ', ck_31 hS (b_31_0 hS ⟨σ1, g1, hS1, ?_⟩), g2⟩
  intro σ4 e4
  rw [e4]
  exact g
end Wa2
