/-! ===== calls: keep, back; notes written ===== -/
section Call5
variable {t : Nat} {σ : Mm} {D H : Nat → Nat → Nat}
theorem mI_s {a j : Nat} {v : Int32} : mI (uI σ a j v) a j = v := by rw [mI_uI, if_pos ⟨rfl, rfl⟩]
theorem mI_n {a j b i : Nat} {v : Int32} (h : ¬ (b = a ∧ i = j)) : mI (uI σ a j v) b i = mI σ b i := by rw [mI_uI, if_neg h]
theorem c_28 {n w x : Nat} {b : Bool} (hS : Sg t σ) (hn : mI σ 49 0 = nI n) (hn2 : n < 24) : Cl 28 [.ref 49, .int (nI w), .int (nI x), .int (if b = true then 1 else 0)] σ (some (.int (nI n)), uI (uI (uI (uI σ 50 n (nI w)) 51 n (nI x)) 52 n (if b = true then 1 else 0)) 49 0 (nI (n + 1))) := by
  have cn : (nI n).toNatClampNeg = n := nI_clamp (by omega)
  have i24 : inb (nI n) 24 = true := inb_nI hn2 (by decide)
  have e1 : ∀ v, mI (uI σ 50 n v) 49 0 = nI n := fun v => by rw [mI_uI, if_neg (by omega)]; exact hn
  have e2 : ∀ v v', mI (uI (uI σ 50 n v) 51 n v') 49 0 = nI n := fun v v' => by rw [mI_uI, if_neg (by omega)]; exact e1 v
  have e3 : ∀ v v' v'', mI (uI (uI (uI σ 50 n v) 51 n v') 52 n v'') 49 0 = nI n := fun v v' v'' => by rw [mI_uI, if_neg (by omega)]; exact e2 v v'
  have eb : (if b = true then (1 : Int32) else 0) &&& 1 = if b = true then 1 else 0 := by cases b <;> decide
  refine ck_28 hS (b_28_0 hS ?_)
  rw [hn, cn, e1, cn]
  refine ⟨fun z => absurd z (nI_pos (by omega)), fun _ => ⟨fun _ => ⟨i24, i24, fun τ1 q1 => ?_⟩, fun z => absurd (nI_lt (b := 24) hn2 (by decide)) z⟩⟩
  rw [q1, e2, cn, eb]
  refine ⟨i24, fun τ4 q4 => ?_⟩
  rw [q4, e3, nI_1, mI_s, nI_sub1 (by omega), Nat.add_sub_cancel]
theorem c_253 {n w x : Nat} {b : Bool} (hS : Sg t σ) (hn : mI σ 59 68 = nI n) (hn2 : n < 24) : Cl 253 [.ref 59, .int (nI w), .int (nI x), .int (if b = true then 1 else 0)] σ (some (.int (nI n)), uI (uI (uI (uI σ 94 (3 * n) (nI w)) 94 (3 * n + 1) (nI x)) 94 (3 * n + 2) (if b = true then 1 else 0)) 59 68 (nI (n + 1))) := by
  have em : (3 : Int32) * nI n = nI (3 * n) := pk_mul 3 n
  have e1 : nI (3 * n) + 1 = nI (3 * n + 1) := nI_add (3 * n) 1
  have e2 : nI (3 * n) + 2 = nI (3 * n + 2) := nI_add (3 * n) 2
  refine ck_253 hS (b_253_0 hS ?_)
  rw [hn, em, e1, e2, nI_clamp (n := 3 * n) (by omega), nI_clamp (n := 3 * n + 1) (by omega), nI_clamp (n := 3 * n + 2) (by omega)]
  refine w_p (nI_eq (b := 24) (by omega) (by decide)) (fun z => absurd z (by omega)) (fun _ => ⟨inb_nI (by omega) (by decide), fun τ1 q1 => ⟨inb_nI (by omega) (by decide), fun τ4 q4 => ⟨inb_nI (by omega) (by decide), fun τ7 q7 => ?_⟩⟩⟩)
  have k : mI τ7 59 68 = nI n := by
    rw [q7, mI_uI, if_neg (by omega), q4, mI_uI, if_neg (by omega), q1, mI_uI, if_neg (by omega)]; exact hn
  rw [k, nI_1, mI_s, nI_sub1 (by omega), Nat.add_sub_cancel, q7, q4, q1]
theorem c_28f {x y z : Int32} (hS : Sg t σ) (hn : mI σ 49 0 = nI 24) : Cl 28 [.ref 49, .int x, .int y, .int z] σ (some (.int (-1)), σ) := by
  refine ck_28 hS (b_28_0 hS ?_)
  rw [hn]
  exact ⟨fun z => absurd z (by decide), fun _ => ⟨fun z => absurd z (by decide), fun _ => rfl⟩⟩
theorem c_253f {x y z : Int32} (hS : Sg t σ) (hn : mI σ 59 68 = nI 24) : Cl 253 [.ref 59, .int x, .int y, .int z] σ (some (.int (-1)), σ) := by
  refine ck_253 hS (b_253_0 hS ?_)
  rw [hn]
  exact ⟨fun _ => rfl, fun z => absurd rfl z⟩
def Wno (x i : Nat) : Prop := (x = 49 ∧ i ≤ 1) ∨ (50 ≤ x ∧ x ≤ 52) ∨ x = 94 ∨ (x = 59 ∧ (i = 2 ∨ i = 68 ∨ i = 69))
theorem inv_no {σ' : Mm} (h : Inv t σ D H) (hf : Fr Wno σ σ') (hN : NtI σ' (D 0 0) (D 1 0)) : Inv t σ' D H := by
  obtain ⟨q, h1, h2, h3, h4⟩ := h
  have ht := q.tt
  refine ⟨⟨hf.sg q.sg, q.tt, q.2.2.1, ⟨q.ct.fr hf (fun x i a b z => ?_), q.ch.fr hf (fun x i a b z => ?_)⟩, q.mt.fr hf (fun x i a z => ?_), q.mh.fr (by decide) q.hP hf (fun x i a z => ?_), ((hf.1 59 58 (fun z => ?_)).2).trans q.nu⟩, h1.fr hf (fun x i a z => ?_), h2.fr q.hP hf (fun x i a z => ?_), h3.fr q.hP hf (fun x i a z => ?_), hN⟩
  all_goals
    unfold Wno at z
    omega
/-- a note more, on both sides -/
theorem nt_push {σ' : Mm} {L P n w x : Nat} {kx : Int32} {W T : Nat → Nat} {S : Nat → Bool} {b1 b2 : Bool} (hn : n < 24) (h5 : kx = -1 ∨ ∃ m, m ≤ n ∧ kx = nI m) (h6 : ∀ k, k < n → (mI σ 50 k = nI (W k) ∧ mI σ 51 k = nI (T k) ∧ mI σ 94 (3 * k) = nI (W k) ∧ mI σ 94 (3 * k + 1) = nI (T k)) ∧ ((W k = 0 ∧ T k < L) ∨ (W k = 1 ∧ T k < P) ∨ (W k = 2 ∧ T k < k)) ∧ (W k ≠ 2 → mI σ 52 k = (if S k = true then 1 else 0) ∧ mI σ 94 (3 * k + 2) = (if S k = true then 1 else 0))) (hx : (w = 0 ∧ x < L) ∨ (w = 1 ∧ x < P) ∨ (w = 2 ∧ x < n)) (hb : w ≠ 2 → b1 = b2) (a1 : mI σ' 49 0 = nI (n + 1)) (a2 : mI σ' 59 68 = nI (n + 1)) (a3 : mI σ' 49 1 = kx) (a4 : mI σ' 59 69 = kx) (a5 : mI σ' 50 n = nI w ∧ mI σ' 51 n = nI x ∧ mI σ' 52 n = (if b1 = true then 1 else 0)) (a6 : mI σ' 94 (3 * n) = nI w ∧ mI σ' 94 (3 * n + 1) = nI x ∧ mI σ' 94 (3 * n + 2) = (if b2 = true then 1 else 0)) (a7 : ∀ y k, 50 ≤ y → y ≤ 52 → k < n → mI σ' y k = mI σ y k) (a8 : ∀ k, k < 3 * n → mI σ' 94 k = mI σ 94 k) : NtI σ' L P := by
  refine ⟨n + 1, kx, fun k => if k = n then w else W k, fun k => if k = n then x else T k, fun k => if k = n then b1 else S k, by omega, a1, a2, a3, a4, ?_, fun k hk => ?_⟩
  · rcases h5 with e | ⟨m, hm, e⟩
    · exact Or.inl e
    · exact Or.inr ⟨m, by omega, e⟩
  · by_cases c : k = n
    · subst c
      show (mI σ' 50 k = nI (if k = k then w else W k) ∧ mI σ' 51 k = nI (if k = k then x else T k) ∧ mI σ' 94 (3 * k) = nI (if k = k then w else W k) ∧ mI σ' 94 (3 * k + 1) = nI (if k = k then x else T k)) ∧ (((if k = k then w else W k) = 0 ∧ (if k = k then x else T k) < L) ∨ ((if k = k then w else W k) = 1 ∧ (if k = k then x else T k) < P) ∨ ((if k = k then w else W k) = 2 ∧ (if k = k then x else T k) < k)) ∧ ((if k = k then w else W k) ≠ 2 → mI σ' 52 k = (if (if k = k then b1 else S k) = true then 1 else 0) ∧ mI σ' 94 (3 * k + 2) = (if (if k = k then b1 else S k) = true then 1 else 0))
      rw [if_pos rfl, if_pos rfl, if_pos rfl]
      refine ⟨⟨a5.1, a5.2.1, a6.1, a6.2.1⟩, hx, fun z => ⟨a5.2.2, ?_⟩⟩
      rw [hb z]; exact a6.2.2
    · show (mI σ' 50 k = nI (if k = n then w else W k) ∧ mI σ' 51 k = nI (if k = n then x else T k) ∧ mI σ' 94 (3 * k) = nI (if k = n then w else W k) ∧ mI σ' 94 (3 * k + 1) = nI (if k = n then x else T k)) ∧ (((if k = n then w else W k) = 0 ∧ (if k = n then x else T k) < L) ∨ ((if k = n then w else W k) = 1 ∧ (if k = n then x else T k) < P) ∨ ((if k = n then w else W k) = 2 ∧ (if k = n then x else T k) < k)) ∧ ((if k = n then w else W k) ≠ 2 → mI σ' 52 k = (if (if k = n then b1 else S k) = true then 1 else 0) ∧ mI σ' 94 (3 * k + 2) = (if (if k = n then b1 else S k) = true then 1 else 0))
      rw [if_neg c, if_neg c, if_neg c, a7 50 k (by omega) (by omega) (by omega), a7 51 k (by omega) (by omega) (by omega), a7 52 k (by omega) (by omega) (by omega), a8 (3 * k) (by omega), a8 (3 * k + 1) (by omega), a8 (3 * k + 2) (by omega)]
      exact h6 k (by omega)
/-- both sides write a note -/
theorem notes {w x : Nat} {b1 b2 : Bool} (h : Inv t σ D H) (hx : ∀ n, mI σ 49 0 = nI n → n ≤ 24 → (w = 0 ∧ x < D 0 0) ∨ (w = 1 ∧ x < D 1 0) ∨ (w = 2 ∧ x < n)) (hb : w ≠ 2 → b1 = b2) : ∃ v σ1 σ2, Cl 28 [.ref 49, .int (nI w), .int (nI x), .int (if b1 = true then 1 else 0)] σ (some (.int v), σ1) ∧ Sg t σ1 ∧ Cl 253 [.ref 59, .int (nI w), .int (nI x), .int (if b2 = true then 1 else 0)] (uI σ1 59 2 0) (some (.int v), σ2) ∧ Inv t σ2 D H ∧ (∀ i, i = 12 ∨ i = 13 ∨ i = 68 → mI (uI σ1 59 2 0) 59 i = mI σ 59 i) := by
  obtain ⟨n, kx, W, T, S, h0, h1, h2, h3, h4, h5, h6⟩ := h.2.2.2.2
  have hS := h.1.sg
  by_cases c : n = 24
  · subst c
    exact ⟨-1, σ, uI σ 59 2 0, c_28f hS h1, hS, c_253f (σ := uI σ 59 2 0) hS (by rw [mI_uI, if_neg (by omega)]; exact h2), h.fr wq_th, fun i hi => by rw [mI_uI, if_neg (by omega)]⟩
  · have hn : n < 24 := by omega
    have c1 := c_28 (w := w) (x := x) (b := b1) hS h1 hn
    have F1 : Fr Wno σ (uI (uI (uI (uI σ 50 n (nI w)) 51 n (nI x)) 52 n (if b1 = true then 1 else 0)) 49 0 (nI (n + 1))) := ((((Fr.rf σ).uI (by unfold Wno; omega)).uI (by unfold Wno; omega)).uI (by unfold Wno; omega)).uI (by unfold Wno; omega)
    have r59 : ∀ y i, 59 ≤ y → mI (uI (uI (uI (uI σ 50 n (nI w)) 51 n (nI x)) 52 n (if b1 = true then 1 else 0)) 49 0 (nI (n + 1))) y i = mI σ y i := fun y i hy => by rw [mI_n (by omega), mI_n (by omega), mI_n (by omega), mI_n (by omega)]
    have rc : mI (uI (uI (uI (uI σ 50 n (nI w)) 51 n (nI x)) 52 n (if b1 = true then 1 else 0)) 49 0 (nI (n + 1))) 49 0 = nI (n + 1) ∧ mI (uI (uI (uI (uI σ 50 n (nI w)) 51 n (nI x)) 52 n (if b1 = true then 1 else 0)) 49 0 (nI (n + 1))) 49 1 = kx ∧ mI (uI (uI (uI (uI σ 50 n (nI w)) 51 n (nI x)) 52 n (if b1 = true then 1 else 0)) 49 0 (nI (n + 1))) 50 n = nI w ∧ mI (uI (uI (uI (uI σ 50 n (nI w)) 51 n (nI x)) 52 n (if b1 = true then 1 else 0)) 49 0 (nI (n + 1))) 51 n = nI x ∧ mI (uI (uI (uI (uI σ 50 n (nI w)) 51 n (nI x)) 52 n (if b1 = true then 1 else 0)) 49 0 (nI (n + 1))) 52 n = (if b1 = true then 1 else 0) := by
      refine ⟨mI_s, ?_, ?_, ?_, ?_⟩
      · rw [mI_n (by omega), mI_n (by omega), mI_n (by omega), mI_n (by omega)]; exact h3
      · rw [mI_n (by omega), mI_n (by omega), mI_n (by omega), mI_s]
      · rw [mI_n (by omega), mI_n (by omega), mI_s]
      · rw [mI_n (by omega), mI_s]
    have rk : ∀ y k, 50 ≤ y → y ≤ 52 → k < n → mI (uI (uI (uI (uI σ 50 n (nI w)) 51 n (nI x)) 52 n (if b1 = true then 1 else 0)) 49 0 (nI (n + 1))) y k = mI σ y k := fun y k a b c => by rw [mI_n (by omega), mI_n (by omega), mI_n (by omega), mI_n (by omega)]
    have S1 := F1.sg hS
    generalize uI (uI (uI (uI σ 50 n (nI w)) 51 n (nI x)) 52 n (if b1 = true then 1 else 0)) 49 0 (nI (n + 1)) = σ1 at c1 F1 r59 rc rk S1
    have S1' : Sg t (uI σ1 59 2 0) := S1
    have c2 := c_253 (w := w) (x := x) (b := b2) S1' (show mI (uI σ1 59 2 0) 59 68 = nI n by rw [mI_n (by omega), r59 59 68 (by omega)]; exact h2) hn
    have F2 : Fr Wno σ (uI (uI (uI (uI (uI σ1 59 2 0) 94 (3 * n) (nI w)) 94 (3 * n + 1) (nI x)) 94 (3 * n + 2) (if b2 = true then 1 else 0)) 59 68 (nI (n + 1))) := ((((F1.uI (by unfold Wno; omega)).uI (by unfold Wno; omega)).uI (by unfold Wno; omega)).uI (by unfold Wno; omega)).uI (by unfold Wno; omega)
    refine ⟨nI n, σ1, _, c1, S1, c2, inv_no h F2 (nt_push (σ := σ) (b1 := b1) (b2 := b2) hn h5 h6 (hx n h1 h0) hb ?_ ?_ ?_ ?_ ⟨?_, ?_, ?_⟩ ⟨?_, ?_, ?_⟩ ?_ ?_), fun i hi => ?_⟩
    · rw [mI_n (by omega), mI_n (by omega), mI_n (by omega), mI_n (by omega), mI_n (by omega)]; exact rc.1
    · exact mI_s
    · rw [mI_n (by omega), mI_n (by omega), mI_n (by omega), mI_n (by omega), mI_n (by omega)]; exact rc.2.1
    · rw [mI_n (by omega), mI_n (by omega), mI_n (by omega), mI_n (by omega), mI_n (by omega), r59 59 69 (by omega)]; exact h4
    · rw [mI_n (by omega), mI_n (by omega), mI_n (by omega), mI_n (by omega), mI_n (by omega)]; exact rc.2.2.1
    · rw [mI_n (by omega), mI_n (by omega), mI_n (by omega), mI_n (by omega), mI_n (by omega)]; exact rc.2.2.2.1
    · rw [mI_n (by omega), mI_n (by omega), mI_n (by omega), mI_n (by omega), mI_n (by omega)]; exact rc.2.2.2.2
    · rw [mI_n (by omega), mI_n (by omega), mI_n (by omega), mI_s]
    · rw [mI_n (by omega), mI_n (by omega), mI_s]
    · rw [mI_n (by omega), mI_s]
    · intro y k a b c
      rw [mI_n (by omega), mI_n (by omega), mI_n (by omega), mI_n (by omega), mI_n (by omega)]; exact rk y k a b c
    · intro k hk
      rw [mI_n (by omega), mI_n (by omega), mI_n (by omega), mI_n (by omega), mI_n (by omega)]; exact r59 94 k (by omega)
    · rw [mI_n (by omega)]; exact r59 59 i (by omega)
theorem i_strike {x : Int32} (h : Inv t σ D H) : PrS 131 255 [.int x] t σ := by
  obtain ⟨n, kx, W, T, S, h0, h1, h2, h3, h4, h5, h6⟩ := h.2.2.2.2
  have hq := h.1
  rcases bad_or x (show n < 2 ^ 31 by omega) with b | ⟨k, hk, rfl⟩
  · exact (PrI.mk0 hq (v := -1) (ck_131 hq.sg (b_131_0 hq.sg ⟨_, _, ck_29 hq.sg (b_29_0 hq.sg (w_bad h1 b rfl)), hq.sg, rfl⟩)) ⟨_, ck_255 hq.sg (b_255_0 hq.sg (w_bad (by rw [mI_n (by omega)]; exact h2) b rfl)), wq_th⟩).st h
  · obtain ⟨v, σ1, σ2, c1, s1, c2, i2, r⟩ := notes (w := 2) (x := k) (b1 := true) (b2 := false) h (fun m e hm => by
      have : m = n := (nI_eq (by omega) (by omega)).mp (e.symm.trans h1)
      omega) (fun z => absurd rfl z)
    refine ⟨v, σ1, σ2, t, D, H, ck_131 hq.sg (b_131_0 hq.sg ⟨_, σ1, ck_29 hq.sg (b_29_0 hq.sg (w_ok h1 (by omega) hk ⟨_, σ1, c1, s1, rfl⟩)), s1, rfl⟩), s1, ck_255 s1 (b_255_0 s1 (w_ok (by rw [r 68 (by omega)]; exact h2) (by omega) hk ⟨_, σ2, c2, i2.1.sg, rfl⟩)), i2⟩
end Call5
