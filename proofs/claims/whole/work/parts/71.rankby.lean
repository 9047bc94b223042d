/-! ===== specs: rankBy, the other side ===== -/
section RankBy
variable {t P K : Nat} {ties : Nat → Nat} {σ : Mm}
def Wk (a i : Nat) : Prop := a = 92
def Rwm (P F : Nat) (ties : Nat → Nat) (k : Nat) (r : Nat → Nat) (σ : Mm) : Prop := Rw r ∧ (∀ l, l < 14 → mI σ 92 l = nI (r l)) ∧ (∀ l, r l < 2 ^ 14) ∧ (∀ v, RS r 14 v ↔ Spn F (tn ties P) k v)
theorem c_245 (hS : Sg t σ) (hP : mI σ 59 13 = nI P) (hp : P ≤ 10) (hK : mI σ 84 0 = nI K) (hK2 : K < 2 ^ 31) (ht : ∀ i, i < P → mI σ 89 i = nI (ties i)) (hb : ∀ i, i < P → ties i < 2 ^ 14) :
    ∃ σ', Cl 245 [.ref 59] σ (some (.int (nI (pcn (bas (fre P K) ties (tn ties P) P)))), σ') ∧ Fr Wk σ σ' := by
  have hF : fre P K < 2 ^ 31 := Nat.lt_trans (fre_lt hp) (by decide)
  have kP : ∀ σ', Fr Wk σ σ' → mI σ' 59 13 = nI P := fun σ' hf => ((hf.1 59 13 (by unfold Wk; omega)).1).trans hP
  have kK : ∀ σ', Fr Wk σ σ' → mI σ' 84 0 = nI K := fun σ' hf => ((hf.1 84 0 (by unfold Wk; omega)).1).trans hK
  have kT : ∀ σ', Fr Wk σ σ' → ∀ i, i < P → mI σ' 89 i = nI (ties i) := fun σ' hf i hi => ((hf.1 89 i (by unfold Wk; omega)).1).trans (ht i hi)
  rw [pcn_P hp bas_le]
  have two : ∀ σ1 z3 z4, Fr Wk σ σ1 → (∀ l, l < 14 → mI σ1 92 l = 0) → ∃ σ', Ev 245 25 [.ref 59, .int 0, .int 0, z3, z4] [] σ1 (some (.int (nI (fa_cnt (fun i => (bas (fre P K) ties (tn ties P) P).testBit i) P))), σ') ∧ Fr Wk σ σ' := by
    intro σ1 z3 z4 hf1 hz1
    have RS0 : ∀ n v, RS (fun _ => 0) n v ↔ v = 0 := by
      intro n
      induction n with
      | zero => intro v; exact Iff.rfl
      | succ n ih =>
        intro v
        show RS _ n v ∨ RS _ n (v ^^^ 0) ↔ _
        rw [Nat.xor_zero, ih, or_self]
    have h0 : Rwm P (fre P K) ties 0 (fun _ => 0) σ1 := by
      refine ⟨fun l => ⟨Nat.two_pow_pos _, Or.inl rfl⟩, hz1, fun _ => Nat.two_pow_pos 14, fun v => ?_⟩
      rw [RS0]
      constructor
      · intro e; subst e; exact ⟨0, Nat.one_pos, Nat.zero_and _, tn_z⟩
      · intro ⟨s, hs, _, e⟩
        have : s = 0 := by omega
        subst this
        rw [← e, tn_z]
    refine lp (fun k σ' => Fr Wk σ σ' ∧ ∃ r, Rwm P (fre P K) ties k r σ') (fun k σ1 => ∀ z3 z4, ∃ σ', Ev 245 25 [.ref 59, .int (nI (fa_cnt (fun i => (bas (fre P K) ties (tn ties P) P).testBit i) k)), .int (nI k), z3, z4] [] σ1 (some (.int (nI (fa_cnt (fun i => (bas (fre P K) ties (tn ties P) P).testBit i) P))), σ') ∧ Fr Wk σ σ') P ?_ ?_ (Nat.zero_le _) ⟨hf1, _, h0⟩ z3 z4
    · intro k σ2 hk ⟨hf2, r, hw, hm, hr14, hsp⟩ ih z3 z4
      have hS2 := hf2.sg hS
      have hFb : (fre P K).testBit k = !(K.testBit k) := by rw [fre_bit, decide_eq_true hk, Bool.true_and]
      have hbb := bas_bit (F := fre P K) (ties := ties) (tz := tn ties P) (k := k) (n := P)
      rw [decide_eq_true hk, Bool.true_and] at hbb
      -- the pull adds nothing
      have old : ((fre P K).testBit k = false ∨ Spn (fre P K) (tn ties P) k (ties k)) → ∀ z3 z4, ∃ σ', Ev 245 25 [.ref 59, .int (nI (fa_cnt (fun i => (bas (fre P K) ties (tn ties P) P).testBit i) k)), .int (nI k + 1), z3, z4] [] σ2 (some (.int (nI (fa_cnt (fun i => (bas (fre P K) ties (tn ties P) P).testBit i) P))), σ') ∧ Fr Wk σ σ' := by
        intro ho z3 z4
        have e : (bas (fre P K) ties (tn ties P) P).testBit k = false := by
          rw [hbb]
          rcases ho with g | g
          · rw [g, Bool.false_and]
          · rw [spb_iff.mpr g]; exact Bool.and_false _
        obtain ⟨σ', h, g⟩ := ih σ2 ⟨hf2, r, hw, hm, hr14, fun v => by rw [hsp v, Spn_old hk ho]⟩ z3 z4
        rw [fa_cnt_no (p := fun i => (bas (fre P K) ties (tn ties P) P).testBit i) e, ← nI_1] at h
        exact ⟨σ', h, g⟩
      cases hKb : K.testBit k with
      | true =>
        rw [hKb] at hFb
        obtain ⟨σ', h, g⟩ := old (Or.inl hFb) (.int 0) (.int 13)
        refine ⟨σ', b_245_25 hS2 ?_, g⟩
        rw [kP σ2 hf2, kK σ2 hf2]
        refine pk_lt k P (fun _ => ⟨_, _, c_153 hS2 hK2 (by omega), hS2, w_b (fun z => by rw [hKb] at z; cases z) (fun _ => ?_)⟩) (fun z => absurd hk (by omega))
        exact b_245_61 hS2 ⟨fun z => absurd z (by decide), fun _ => ⟨fun _ => h, fun z => absurd rfl z⟩⟩
      | false =>
        rw [hKb] at hFb
        have inner : ∀ n, n ≤ 14 → ∀ x, x < 2 ^ n → RS r 14 (ties k ^^^ x) → ∃ σ', Ev 245 61 [.ref 59, .int (nI (fa_cnt (fun i => (bas (fre P K) ties (tn ties P) P).testBit i) k)), .int (nI k), .int (nI x), .int (dI n)] [] σ2 (some (.int (nI (fa_cnt (fun i => (bas (fre P K) ties (tn ties P) P).testBit i) P))), σ') ∧ Fr Wk σ σ' := by
          intro n
          induction n with
          | zero =>
            intro _ x hx hR
            have : x = 0 := by omega
            subst this
            rw [Nat.xor_zero] at hR
            obtain ⟨σ', h, g⟩ := old (Or.inr ((hsp _).mp hR)) (.int 0) (.int (-1))
            exact ⟨σ', b_245_61 hS2 ⟨fun _ => h, fun z => absurd (by decide) z⟩, g⟩
          | succ n ihn =>
            intro hn x hx hR
            have hx14 : x < 2 ^ 14 := Nat.lt_of_lt_of_le hx (Nat.pow_le_pow_right (by decide) hn)
            rcases Nat.eq_zero_or_pos x with e0 | hx0
            · subst e0
              rw [Nat.xor_zero] at hR
              obtain ⟨σ', h, g⟩ := old (Or.inr ((hsp _).mp hR)) (.int 0) (.int (nI n))
              exact ⟨σ', b_245_61 hS2 ⟨fun z => absurd z (nI_pos (by omega)), fun _ => ⟨fun _ => h, fun z => absurd rfl z⟩⟩, g⟩
            · have hne : ¬ nI x = 0 := nI_ne0 hx0 (by omega)
              cases hb1 : x.testBit n with
              | false =>
                have hxn : x < 2 ^ n := by
                  rcases half hx with g | ⟨d, hd, rfl⟩
                  · exact g
                  · rw [Nat.testBit_or, Nat.testBit_two_pow_self, Bool.or_true] at hb1; cases hb1
                obtain ⟨σ', h, g⟩ := ihn (by omega) x hxn hR
                refine ⟨σ', b_245_61 hS2 ⟨fun z => absurd z (nI_pos (by omega)), fun _ => ⟨fun z => absurd z hne, fun _ => ⟨_, _, c_153 (k := n) hS2 (by omega) (by omega), hS2, w_b (fun _ => ?_) (fun z => by rw [hb1] at z; cases z)⟩⟩⟩, g⟩
                show Ev 245 61 [.ref 59, _, _, _, .int (nI n + (-1))] [] σ2 _
                rw [dI_m]; exact h
              | true =>
                have hmn := hm n (by omega)
                rcases Nat.eq_zero_or_pos (r n) with hr0 | hr0
                · -- a new row
                  have hns : ¬ Spn (fre P K) (tn ties P) k (ties k) := fun z => by
                    have h1 := RS_x 14 _ _ ((hsp _).mpr z) hR
                    rw [← Nat.xor_assoc, Nat.xor_self, Nat.zero_xor] at h1
                    exact not_RS hw hx hb1 hr0 (by omega) h1
                  have e : (bas (fre P K) ties (tn ties P) P).testBit k = true := by
                    have : spb (fre P K) (tn ties P) k (ties k) = false := by
                      cases hs : spb (fre P K) (tn ties P) k (ties k) with
                      | true => exact absurd (spb_iff.mp hs) hns
                      | false => rfl
                    rw [hbb, hFb, this]; rfl
                  have hnew : Rwm P (fre P K) ties (k + 1) (fun i => if i = n then x else r i) (uI σ2 92 n (nI x)) := by
                    refine ⟨fun l => ?_, fun l hl => ?_, fun l => ?_, ?_⟩
                    · by_cases e : l = n
                      · subst e
                        show (if l = l then x else r l) < _ ∧ ((if l = l then x else r l) = 0 ∨ (if l = l then x else r l).testBit l = true)
                        rw [if_pos rfl]
                        exact ⟨hx, Or.inr hb1⟩
                      · show (if l = n then x else r l) < _ ∧ ((if l = n then x else r l) = 0 ∨ (if l = n then x else r l).testBit l = true)
                        rw [if_neg e]
                        exact hw l
                    · rw [mI_uI]
                      by_cases e : l = n
                      · rw [if_pos ⟨rfl, e⟩]
                        show _ = nI (if l = n then x else r l)
                        rw [if_pos e]
                      · rw [if_neg (fun z => e z.2)]
                        show _ = nI (if l = n then x else r l)
                        rw [if_neg e]; exact hm l hl
                    · show (if l = n then x else r l) < _
                      split
                      · exact hx14
                      · exact hr14 l
                    · exact RS_pull hk (by omega) hr0 hFb hsp hR
                  have hf4 : Fr Wk σ (uI σ2 92 n (nI x)) := hf2.uI rfl
                  have hS4 := hf4.sg hS
                  obtain ⟨σ', h, g⟩ := ih _ ⟨hf4, _, hnew⟩ (.int 0) (.int (dI n))
                  rw [fa_cnt_yes (p := fun i => (bas (fre P K) ties (tn ties P) P).testBit i) e, ← nI_1, ← nI_1] at h
                  refine ⟨σ', b_245_61 hS2 ⟨fun z => absurd z (nI_pos (by omega)), fun _ => ⟨fun z => absurd z hne, fun _ => ⟨_, _, c_153 (k := n) hS2 (by omega) (by omega), hS2, w_b (fun z => by rw [hb1] at z; cases z) (fun _ => ⟨inb_nI (by omega) (by decide), ?_⟩)⟩⟩⟩, g⟩
                  show (mI σ2 92 (nI n).toNatClampNeg = 0 → _) ∧ (¬ mI σ2 92 (nI n).toNatClampNeg = 0 → _)
                  rw [nI_clamp (by omega), hmn, hr0]
                  refine ⟨fun _ => ⟨inb_nI (by omega) (by decide), ?_⟩, fun z => absurd rfl z⟩
                  show Ev 245 61 [.ref 59, _, _, _, .int (nI n + (-1))] [] (uI σ2 92 (nI n).toNatClampNeg (nI x)) _
                  rw [nI_clamp (by omega), dI_m]
                  refine b_245_61 hS4 ⟨fun _ => h, fun _ => ⟨fun _ => h, fun z => absurd rfl z⟩⟩
                · have hrb : (r n).testBit n = true := ((hw n).2).resolve_left (by omega)
                  have hxn : x ^^^ r n < 2 ^ n := by
                    have h1 := Nat.xor_lt_two_pow hx (hw n).1
                    rcases half h1 with g | ⟨d, hd, hde⟩
                    · exact g
                    · have h2 : (x ^^^ r n).testBit n = false := by rw [Nat.testBit_xor, hb1, hrb]; rfl
                      rw [hde, Nat.testBit_or, Nat.testBit_two_pow_self, Bool.or_true] at h2; cases h2
                  have hR2 : RS r 14 (ties k ^^^ (x ^^^ r n)) := by
                    rw [← Nat.xor_assoc]
                    exact RS_x 14 _ _ hR (RS_row (by omega))
                  obtain ⟨σ', h, g⟩ := ihn (by omega) (x ^^^ r n) hxn hR2
                  refine ⟨σ', b_245_61 hS2 ⟨fun z => absurd z (nI_pos (by omega)), fun _ => ⟨fun z => absurd z hne, fun _ => ⟨_, _, c_153 (k := n) hS2 (by omega) (by omega), hS2, w_b (fun z => by rw [hb1] at z; cases z) (fun _ => ⟨inb_nI (by omega) (by decide), ?_⟩)⟩⟩⟩, g⟩
                  show (mI σ2 92 (nI n).toNatClampNeg = 0 → _) ∧ (¬ mI σ2 92 (nI n).toNatClampNeg = 0 → _)
                  rw [nI_clamp (by omega), hmn]
                  refine ⟨fun z => absurd z (nI_ne0 hr0 (Nat.lt_trans (hr14 n) (by decide))), fun _ => ⟨inb_nI (by omega) (by decide), ?_⟩⟩
                  show Ev 245 61 [.ref 59, _, _, .int (nI x ^^^ mI σ2 92 (nI n).toNatClampNeg), .int (nI n + (-1))] [] σ2 _
                  rw [nI_clamp (by omega), hmn, nI_xor, dI_m]; exact h
        have hr00 : RS r 14 (ties k ^^^ ties k) := by rw [Nat.xor_self]; exact RS_z 14
        obtain ⟨σ', h, g⟩ := inner 14 (Nat.le_refl _) (ties k) (hb k hk) hr00
        refine ⟨σ', b_245_25 hS2 ?_, g⟩
        rw [kP σ2 hf2, kK σ2 hf2]
        refine pk_lt k P (fun _ => ⟨_, _, c_153 hS2 hK2 (by omega), hS2, w_b (fun _ => ⟨inb_nI (by omega) (by decide), ?_⟩) (fun z => by rw [hKb] at z; cases z)⟩) (fun z => absurd hk (by omega))
        rw [nI_clamp (by omega), kT σ2 hf2 k hk]
        exact h
    · intro σ2 ⟨hf2, r, hR⟩ z3 z4
      refine ⟨σ2, b_245_25 (hf2.sg hS) ?_, hf2⟩
      rw [kP σ2 hf2]
      exact pk_lt P P (fun z => absurd z (Nat.lt_irrefl _)) (fun _ => rfl)
  have one : ∃ σ', Ev 245 4 [.ref 59, .int 0, .int (nI 0), .retAddr 0, .retAddr 0] [] σ (some (.int (nI (fa_cnt (fun i => (bas (fre P K) ties (tn ties P) P).testBit i) P))), σ') ∧ Fr Wk σ σ' := by
    refine lp (fun k σ1 => Fr Wk σ σ1 ∧ ∀ l, l < k → mI σ1 92 l = 0) (fun k σ1 => ∃ σ', Ev 245 4 [.ref 59, .int 0, .int (nI k), .retAddr 0, .retAddr 0] [] σ1 (some (.int (nI (fa_cnt (fun i => (bas (fre P K) ties (tn ties P) P).testBit i) P))), σ') ∧ Fr Wk σ σ') 14 ?_ ?_ (Nat.zero_le _) ⟨Fr.rf σ, fun l hl => absurd hl (Nat.not_lt_zero l)⟩
    · intro k σ1 hk ⟨hf, hz⟩ ih
      obtain ⟨σ', h, g⟩ := ih (uI σ1 92 k 0) ⟨hf.uI rfl, fun l hl => by
        rw [mI_uI]
        by_cases e : l = k
        · rw [if_pos ⟨rfl, e⟩]
        · rw [if_neg (fun z => e z.2)]; exact hz l (by omega)⟩
      refine ⟨σ', b_245_4 (hf.sg hS) ?_, g⟩
      rw [nI_clamp (by omega), nI_1]
      exact pk_lt k 14 (fun _ => ⟨inb_nI hk (by decide), h⟩) (fun z => absurd hk (by omega))
    · intro σ1 ⟨hf, hz⟩
      obtain ⟨σ', h, g⟩ := two σ1 (.retAddr 0) (.retAddr 0) hf hz
      exact ⟨σ', b_245_4 (hf.sg hS) (pk_lt 14 14 (fun z => absurd z (by decide)) (fun _ => h)), g⟩
  obtain ⟨σ', h, g⟩ := one
  exact ⟨σ', ck_245 hS (b_245_0 hS h), g⟩
end RankBy
