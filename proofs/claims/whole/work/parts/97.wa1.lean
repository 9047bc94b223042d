/-! ===== notes: first side ===== -/
section Wa1
variable {t : Nat} {σ : Mm} {L P K : Nat} {W T : Nat → Nat} {S : Nat → Bool}
/-- the notes known, K of them -/
def NK (σ : Mm) (L P K : Nat) (W T : Nat → Nat) (S : Nat → Bool) : Prop := K ≤ 24 ∧ ((mI σ 49 1 = -1 ∧ mI σ 49 0 = nI K) ∨ mI σ 49 1 = nI K) ∧ ((mI σ 59 69 = -1 ∧ mI σ 59 68 = nI K) ∨ mI σ 59 69 = nI K) ∧ ∀ k, k < K → (mI σ 50 k = nI (W k) ∧ mI σ 51 k = nI (T k) ∧ mI σ 94 (3 * k) = nI (W k) ∧ mI σ 94 (3 * k + 1) = nI (T k)) ∧ ((W k = 0 ∧ T k < L) ∨ (W k = 1 ∧ T k < P) ∨ (W k = 2 ∧ T k < k)) ∧ (W k ≠ 2 → mI σ 52 k = (if S k = true then 1 else 0) ∧ mI σ 94 (3 * k + 2) = (if S k = true then 1 else 0))
theorem NtI.nk (h : NtI σ L P) : ∃ K W T S, NK σ L P K W T S := by
  obtain ⟨n, kx, W, T, S, h0, h1, h2, h3, h4, h5, h6⟩ := h
  rcases h5 with e | ⟨m, hm, e⟩
  · exact ⟨n, W, T, S, h0, Or.inl ⟨h3.trans e, h1⟩, Or.inl ⟨h4.trans e, h2⟩, h6⟩
  · exact ⟨m, W, T, S, by omega, Or.inr (h3.trans e), Or.inr (h4.trans e), fun k hk => h6 k (by omega)⟩
theorem NK.fr {V : Nat → Nat → Prop} {σ' : Mm} (h : NK σ L P K W T S) (hf : Fr V σ σ') (hW : ∀ x i, ((x = 49 ∧ i ≤ 1) ∨ (50 ≤ x ∧ x ≤ 52) ∨ x = 94 ∨ (x = 59 ∧ (i = 68 ∨ i = 69))) → ¬ V x i) : NK σ' L P K W T S := by
  have r : ∀ x i, ((x = 49 ∧ i ≤ 1) ∨ (50 ≤ x ∧ x ≤ 52) ∨ x = 94 ∨ (x = 59 ∧ (i = 68 ∨ i = 69))) → mI σ' x i = mI σ x i := fun x i h => (hf.1 x i (hW x i h)).1
  obtain ⟨h0, h1, h2, h3⟩ := h
  refine ⟨h0, ?_, ?_, fun k hk => ?_⟩
  · rw [r 49 1 (by omega), r 49 0 (by omega)]; exact h1
  · rw [r 59 69 (by omega), r 59 68 (by omega)]; exact h2
  · rw [r 50 k (by omega), r 51 k (by omega), r 94 (3 * k) (by omega), r 94 (3 * k + 1) (by omega), r 52 k (by omega), r 94 (3 * k + 2) (by omega)]
    exact h3 k hk
theorem NK.str (h : NK σ L P K W T S) : ∀ k, k < K → W k = 2 → T k < k := fun k hk e => by
  have := (h.2.2.2 k hk).2.1
  omega
theorem k_m1 {K : Nat} (h : K ≤ 24) : nI K ≠ -1 := fun z => by
  rw [fa_eq, nI_toInt (by omega)] at z
  have z : (K : Int) = -1 := z
  omega
theorem c_30 (hS : Sg t σ) (h : NK σ L P K W T S) : Cl 30 [.ref 49] σ (some (.int (nI K)), σ) := by
  refine ck_30 hS (b_30_0 hS ?_)
  rcases h.2.1 with ⟨e, g⟩ | e
  · rw [e, g]; exact ⟨fun _ => rfl, fun z => absurd rfl z⟩
  · rw [e]; exact ⟨fun z => absurd z (k_m1 h.1), fun _ => rfl⟩
def w34 (w : Nat) (s : Bool) : Nat := if w = 0 then (if s = true then 6 else 7) else (if s = true then 8 else 9)
theorem c_34 {w : Nat} {x : Int32} {s : Bool} (hS : Sg t σ) (hw : w = 0 ∨ w = 1) : Cl 34 [.ref 49, .int (nI w), .int x, .int (if s = true then 1 else 0)] σ (none, uI σ 49 (w34 w s) (mI σ 49 (w34 w s) ||| x)) := by
  refine ck_34 hS (b_34_0 hS ?_)
  rcases hw with e | e
  · subst e
    cases s with
    | true => exact ⟨fun _ => ⟨fun z => absurd z (by decide), fun _ => rfl⟩, fun z => absurd rfl z⟩
    | false => exact ⟨fun _ => ⟨fun _ => b_34_21 hS ⟨fun _ => rfl, fun z => absurd rfl z⟩, fun z => absurd rfl z⟩, fun z => absurd rfl z⟩
  · subst e
    refine ⟨fun z => absurd z (by decide), fun _ => b_34_21 hS ⟨fun z => absurd z (by decide), fun _ => ⟨fun _ => ?_, fun z => absurd rfl z⟩⟩⟩
    cases s with
    | true => exact ⟨fun z => absurd z (by decide), fun _ => rfl⟩
    | false => exact ⟨fun _ => rfl, fun z => absurd rfl z⟩
/-- the four masks, by the notes from lo on -/
def Mk (σ : Mm) (W T : Nat → Nat) (S : Nat → Bool) (m K lo : Nat) : Prop := ∃ a b c e, (a < 2 ^ 14 ∧ b < 2 ^ 14 ∧ c < 2 ^ 14 ∧ e < 2 ^ 14) ∧ (mI σ 49 6 = nI a ∧ mI σ 49 7 = nI b ∧ mI σ 49 8 = nI c ∧ mI σ 49 9 = nI e) ∧ ∀ o s, (o &&& a = a ∧ o &&& b = 0 ∧ s &&& c = c ∧ s &&& e = 0) ↔ Ft W T S m K lo o s
theorem Mk.fr {V : Nat → Nat → Prop} {σ' : Mm} {m lo : Nat} (h : Mk σ W T S m K lo) (hf : Fr V σ σ') (hW : ∀ i, 6 ≤ i → i ≤ 9 → ¬ V 49 i) : Mk σ' W T S m K lo := by
  have r : ∀ i, 6 ≤ i → i ≤ 9 → mI σ' 49 i = mI σ 49 i := fun i h1 h2 => (hf.1 49 i (hW i h1 h2)).1
  obtain ⟨a, b, c, e, h1, ⟨h2, h3, h4, h5⟩, h6⟩ := h
  exact ⟨a, b, c, e, h1, ⟨(r 6 (by omega) (by omega)).trans h2, (r 7 (by omega) (by omega)).trans h3, (r 8 (by omega) (by omega)).trans h4, (r 9 (by omega) (by omega)).trans h5⟩, h6⟩
theorem Mk.same {m lo : Nat} (h : Mk σ W T S m K (lo + 1)) (hl : lo < K) (hm : m.testBit lo = true ∨ W lo = 2) : Mk σ W T S m K lo := by
  obtain ⟨a, b, c, e, h1, h2, h6⟩ := h
  refine ⟨a, b, c, e, h1, h2, fun o s => (h6 o s).trans ((Ft_step hl).trans ⟨fun z => z.2, fun z => ⟨fun y1 y2 => ?_, z⟩⟩).symm⟩
  rcases hm with g | g
  · rw [g] at y1; exact absurd y1 (by decide)
  · exact absurd g y2
theorem Mk.more {m lo : Nat} (h : Mk σ W T S m K (lo + 1)) (hl : lo < K) (hm : m.testBit lo = false) (hw : W lo = 0 ∨ W lo = 1) (hT : T lo < 14) : Mk (uI σ 49 (w34 (W lo) (S lo)) (mI σ 49 (w34 (W lo) (S lo)) ||| nI (2 ^ T lo))) W T S m K lo := by
  obtain ⟨a, b, c, e, ⟨a1, a2, a3, a4⟩, ⟨h2, h3, h4, h5⟩, h6⟩ := h
  have hp : 2 ^ T lo < 2 ^ 14 := Nat.pow_lt_pow_right (by decide) hT
  have key : ∀ o s, Ft W T S m K lo o s ↔ fq W T S o s lo ∧ (o &&& a = a ∧ o &&& b = 0 ∧ s &&& c = c ∧ s &&& e = 0) := fun o s => (Ft_step hl).trans ⟨fun z => ⟨z.1 hm (by omega), (h6 o s).mpr z.2⟩, fun z => ⟨fun _ _ => z.1, (h6 o s).mp z.2⟩⟩
  have key2 : ∀ o s, fq W T S o s lo = ((if W lo = 0 then o else s).testBit (T lo) = S lo) := fun _ _ => rfl
  rcases hw with ew | ew
  · cases es : S lo with
    | true =>
      rw [ew, show w34 0 true = 6 from rfl, h2, fa_or]
      refine ⟨a ||| 2 ^ T lo, b, c, e, ⟨Nat.or_lt_two_pow a1 hp, a2, a3, a4⟩, ⟨mI_s, (mI_n (by omega)).trans h3, (mI_n (by omega)).trans h4, (mI_n (by omega)).trans h5⟩, fun o s => ?_⟩
      rw [key, key2, ew, es, if_pos rfl, and_or]
      exact ⟨fun z => ⟨z.1.2, z.1.1, z.2⟩, fun z => ⟨⟨z.2.1, z.1⟩, z.2.2⟩⟩
    | false =>
      rw [ew, show w34 0 false = 7 from rfl, h3, fa_or]
      refine ⟨a, b ||| 2 ^ T lo, c, e, ⟨a1, Nat.or_lt_two_pow a2 hp, a3, a4⟩, ⟨(mI_n (by omega)).trans h2, mI_s, (mI_n (by omega)).trans h4, (mI_n (by omega)).trans h5⟩, fun o s => ?_⟩
      rw [key, key2, ew, es, if_pos rfl, and_o0]
      exact ⟨fun z => ⟨z.2.1.2, z.1, z.2.1.1, z.2.2⟩, fun z => ⟨z.2.1, ⟨z.2.2.1, z.1⟩, z.2.2.2⟩⟩
  · have n0 : ¬ (1 : Nat) = 0 := by decide
    cases es : S lo with
    | true =>
      rw [ew, show w34 1 true = 8 from rfl, h4, fa_or]
      refine ⟨a, b, c ||| 2 ^ T lo, e, ⟨a1, a2, Nat.or_lt_two_pow a3 hp, a4⟩, ⟨(mI_n (by omega)).trans h2, (mI_n (by omega)).trans h3, mI_s, (mI_n (by omega)).trans h5⟩, fun o s => ?_⟩
      rw [key, key2, ew, es, if_neg n0, and_or]
      exact ⟨fun z => ⟨z.2.2.1.2, z.1, z.2.1, z.2.2.1.1, z.2.2.2⟩, fun z => ⟨z.2.1, z.2.2.1, ⟨z.2.2.2.1, z.1⟩, z.2.2.2.2⟩⟩
    | false =>
      rw [ew, show w34 1 false = 9 from rfl, h5, fa_or]
      refine ⟨a, b, c, e ||| 2 ^ T lo, ⟨a1, a2, a3, Nat.or_lt_two_pow a4 hp⟩, ⟨(mI_n (by omega)).trans h2, (mI_n (by omega)).trans h3, (mI_n (by omega)).trans h4, mI_s⟩, fun o s => ?_⟩
      rw [key, key2, ew, es, if_neg n0, and_o0]
      exact ⟨fun z => ⟨z.2.2.2.2, z.1, z.2.1, z.2.2.1, z.2.2.2.1⟩, fun z => ⟨z.2.1, z.2.2.1, z.2.2.2.1, z.2.2.2.2, z.1⟩⟩
def Wnm (x i : Nat) : Prop := x = 49 ∧ 6 ≤ i ∧ i ≤ 9
theorem w34_b (w : Nat) (s : Bool) : 6 ≤ w34 w s ∧ w34 w s ≤ 9 := by
  unfold w34
  by_cases e : w = 0
  · rw [if_pos e]; cases s <;> decide
  · rw [if_neg e]; cases s <;> decide
theorem c_33 (hS : Sg t σ) (hL : L ≤ 14) (hP : P ≤ 10) (h : NK σ L P K W T S) : ∃ σ', Cl 33 [.ref 49] σ (none, σ') ∧ Fr Wnm σ σ' ∧ Mk σ' W T S (sx W T K K) K 0 := by
  have hK := h.1
  have f0 : Fr Wnm σ (uI (uI (uI (uI σ 49 6 0) 49 7 0) 49 8 0) 49 9 0) := ((((Fr.rf σ).uI ⟨rfl, by omega⟩).uI ⟨rfl, by omega⟩).uI ⟨rfl, by omega⟩).uI ⟨rfl, by omega⟩
  have nw : ∀ x i, ((x = 49 ∧ i ≤ 1) ∨ (50 ≤ x ∧ x ≤ 52) ∨ x = 94 ∨ (x = 59 ∧ (i = 68 ∨ i = 69))) → ¬ Wnm x i := fun x i h1 h2 => by unfold Wnm at h2; omega
  have lo : ∀ (d : Nat) (σ1 : Mm), d ≤ K → Fr Wnm σ σ1 ∧ Mk σ1 W T S (sx W T K K) K (K - d) → ∃ σ', Ev 33 34 [.ref 49, .int (nI (sx W T K d)), .int (nI (K - d) - 1)] [] σ1 (none, σ') ∧ Fr Wnm σ σ' ∧ Mk σ' W T S (sx W T K K) K 0 := by
    intro d σ1 hd hI
    refine lp (fun d σ1 => Fr Wnm σ σ1 ∧ Mk σ1 W T S (sx W T K K) K (K - d)) (fun d σ1 => ∃ σ', Ev 33 34 [.ref 49, .int (nI (sx W T K d)), .int (nI (K - d) - 1)] [] σ1 (none, σ') ∧ Fr Wnm σ σ' ∧ Mk σ' W T S (sx W T K K) K 0) K ?_ ?_ hd hI
    · intro d σ1 hd ⟨hf, hm⟩ ih
      have hS1 := hf.sg hS
      have n1 := h.fr hf nw
      obtain ⟨i, hi⟩ : ∃ i, i = K - (d + 1) := ⟨_, rfl⟩
      have e1 : K - d = i + 1 := by omega
      have e2 : nI (K - d) - 1 = nI i := by
        rw [e1]; exact pk_sub (a := i + 1) (b := 1) (by omega)
      have e3 : nI i + (-1) = nI (K - (d + 1)) - 1 := by
        rw [← hi, Int32.sub_eq_add_neg]
      have hik : i < K := by omega
      obtain ⟨⟨x0, x1, x2, x3⟩, y, z⟩ := n1.2.2.2 i hik
      have hs := sx_lt (W := W) (T := T) hK h.str d (by omega)
      have hb : (sx W T K K).testBit i = (sx W T K d).testBit i := sx_keep h.str (by omega) K (by omega) (Nat.le_refl _)
      rw [e1] at hm
      have sE : sx W T K (d + 1) = if (sx W T K d).testBit i = false ∧ W i = 2 then sx W T K d ||| 2 ^ T i else sx W T K d := by rw [hi]; rfl
      cases hc : (sx W T K d).testBit i with
      | true =>
        obtain ⟨σ', g, g2⟩ := ih σ1 ⟨hf, by rw [← hi]; exact hm.same hik (Or.inl (hb.trans hc))⟩
        refine ⟨σ', b_33_34 hS1 ?_, g2⟩
        rw [e2]
        refine ⟨fun q => absurd q (nI_pos (by omega)), fun _ => bitc (by omega) (by omega) (fun q => ?_) (fun _ => ?_)⟩
        · rw [hc] at q; exact absurd q (by decide)
        · rw [e3]
          rw [sE, hc, if_neg (fun q => absurd q.1 (by decide))] at g
          exact g
      | false =>
        by_cases c2 : W i = 2
        · obtain ⟨σ', g, g2⟩ := ih σ1 ⟨hf, by rw [← hi]; exact hm.same hik (Or.inr c2)⟩
          refine ⟨σ', b_33_34 hS1 ?_, g2⟩
          rw [e2, nI_clamp (by omega), x0, x1, nI_one (by omega), fa_or]
          refine ⟨fun q => absurd q (nI_pos (by omega)), fun _ => bitc (by omega) (by omega) (fun _ => ⟨inb_nI (by omega) (by decide), fun _ => ⟨inb_nI (by omega) (by decide), ?_⟩, fun q => absurd (by rw [c2]; rfl) q⟩) (fun q => ?_)⟩
          · rw [e3]
            rw [sE, hc, if_pos ⟨rfl, c2⟩] at g
            exact g
          · rw [hc] at q; exact absurd q (by decide)
        · have hT : T i < 14 := by omega
          obtain ⟨σ', g, g2⟩ := ih (uI σ1 49 (w34 (W i) (S i)) (mI σ1 49 (w34 (W i) (S i)) ||| nI (2 ^ T i))) ⟨hf.uI ⟨rfl, w34_b _ _⟩, by rw [← hi]; exact hm.more hik (hb.trans hc) (by omega) hT⟩
          refine ⟨σ', b_33_34 hS1 ?_, g2⟩
          have i24 : inb (nI i) 24 = true := inb_nI (by omega) (by decide)
          rw [e2, nI_clamp (by omega), x0, x1, (z c2).1, nI_one (by omega)]
          refine ⟨fun q => absurd q (nI_pos (by omega)), fun _ => bitc (by omega) (by omega) (fun _ => ⟨i24, fun q => ?_, fun _ => ⟨i24, i24, i24, _, c_34 hS1 (by omega), ?_, ?_⟩⟩) (fun q => ?_)⟩
          · exact absurd ((nI_eq (b := 2) (by omega) (by decide)).mp q) c2
          · exact (hf.uI (j := w34 (W i) (S i)) ⟨rfl, w34_b _ _⟩).sg hS
          · rw [e3]
            rw [sE, hc, if_neg (fun q => c2 q.2)] at g
            exact g
          · rw [hc] at q; exact absurd q (by decide)
    · intro σ1 ⟨hf, hm⟩
      rw [Nat.sub_self] at hm ⊢
      exact ⟨σ1, b_33_34 (hf.sg hS) ⟨fun _ => rfl, fun q => absurd (by decide) q⟩, hf, hm⟩
  obtain ⟨σ', g, g2⟩ := lo 0 _ (Nat.zero_le _) ⟨f0, 0, 0, 0, 0, ⟨by decide, by decide, by decide, by decide⟩, ⟨rfl, rfl, rfl, rfl⟩, fun o s => ⟨fun _ i h1 h2 => absurd h2 (by omega), fun _ => ⟨Nat.and_zero _, Nat.and_zero _, Nat.and_zero _, Nat.and_zero _⟩⟩⟩
  refine ⟨σ', ck_33 hS (b_33_0 hS ?_), g2⟩
  intro σ1 e
  subst e
  have s1 := f0.sg hS
  refine ⟨_, _, c_30 s1 (h.fr f0 nw), s1, _, _, c_280n (b := 24) s1 (by omega) (by decide), s1, ?_⟩
  rw [Nat.min_eq_left hK]
  exact g
theorem c_32 {m o s : Nat} (hS : Sg t σ) (h : Mk σ W T S m K 0) (ho : o < 2 ^ 31) (hs : s < 2 ^ 31) : Cl 32 [.ref 49, .int (nI s), .int (nI o)] σ (some (.int (if fb W T S m o s K = true then 1 else 0)), σ) := by
  obtain ⟨a, b, c, e, ⟨a1, a2, a3, a4⟩, ⟨h2, h3, h4, h5⟩, h6⟩ := h
  have k := (fb_iff (W := W) (T := T) (S := S) (m := m) (o := o) (s := s) K).trans (h6 o s).symm
  have al : ∀ x y : Nat, y < 2 ^ 14 → x &&& y < 2 ^ 31 := fun x y hy => Nat.lt_of_le_of_lt Nat.and_le_right (by omega)
  refine ck_32 hS (b_32_0 hS ?_)
  rw [h2, h3, h4, h5, fa_and, fa_and, fa_and, fa_and]
  refine w_p (nI_eq (al _ _ a1) (by omega)) (fun z1 => w_p (nI_i0 (al _ _ a2)) (fun z2 => w_p (nI_eq (al _ _ a3) (by omega)) (fun z3 => w_p (nI_i0 (al _ _ a4)) (fun z4 => ?_) (fun z4 => ?_)) (fun z3 => ?_)) (fun z2 => ?_)) (fun z1 => ?_)
  · rw [if_pos (k.mpr ⟨z1, z2, z3, z4⟩)]
  · rw [if_neg (fun q => z4 (k.mp q).2.2.2)]
  · rw [if_neg (fun q => z3 (k.mp q).2.2.1)]
  · rw [if_neg (fun q => z2 (k.mp q).2.1)]
  · rw [if_neg (fun q => z1 (k.mp q).1)]
end Wa1
