/-! ===== a sum is read, first side: values, signs ===== -/
def clr (cm o : Nat) : Nat := cm ^^^ (cm &&& 2 ^ o)
theorem clr_t {cm o i : Nat} : (clr cm o).testBit i = (cm.testBit i && decide (i ≠ o)) := by
  unfold clr
  rw [Nat.testBit_xor, Nat.testBit_and, Nat.testBit_two_pow]
  by_cases h : i = o
  · rw [h]; simp
  · rw [decide_eq_true h, decide_eq_false (fun z => h z.symm)]; simp
theorem clr_lt {cm o : Nat} (h : cm < 2 ^ 9) : clr cm o < 2 ^ 9 := Nat.xor_lt_two_pow h (Nat.lt_of_le_of_lt Nat.and_le_left h)
theorem set_t {cm o i : Nat} : (cm ||| 2 ^ o).testBit i = (cm.testBit i || decide (i = o)) := by
  rw [Nat.testBit_or, Nat.testBit_two_pow]
  by_cases h : i = o
  · rw [h]
  · rw [decide_eq_false h, decide_eq_false (fun z => h z.symm)]
theorem set_lt {cm o : Nat} (h : cm < 2 ^ 9) (ho : o ≤ 8) : cm ||| 2 ^ o < 2 ^ 9 := Nat.or_lt_two_pow h (Nat.pow_lt_pow_right (by decide) (by omega))
section ExC2
variable {t n a : Nat} {σ : Mm} {D : Nat → Nat → Nat} {W R : List Nat} {c o : Nat} {w mn : Bool} {B : Nat → Nat}
theorem EC.setc {c' : Nat} (ha : a = 3 ∨ a = 15) (h : EC σ a D W c o w mn) : EC (uI σ 1 10 (nI c')) a D W c' o w mn := by
  obtain ⟨⟨h1, h2, h3⟩, h4, ⟨cm, h5, h5'⟩, h6, h7, h8, h9⟩ := h
  exact ⟨⟨mI_s, by rw [mI_n (by omega)]; exact h2, by rw [mI_n (by omega)]; exact h3⟩, WS.fr (fun i => mI_n (by omega)) h4, ⟨cm, by rw [mI_n (by omega)]; exact h5, h5'⟩, by rw [mI_n (by omega)]; exact h6, by rw [mI_n (by omega)]; exact h7, by rw [mI_n (by omega)]; exact h8, fun i hi => by rw [mI_n (by omega)]; exact h9 i hi⟩
theorem EC.setw {w' : Bool} {v : Int32} (ha : a = 3 ∨ a = 15) (h : EC σ a D W c o w mn) (hv : v = (if w' = true then 1 else 0)) : EC (uI σ 1 15 v) a D W c o w' mn := by
  obtain ⟨⟨h1, h2, h3⟩, h4, ⟨cm, h5, h5'⟩, h6, h7, h8, h9⟩ := h
  exact ⟨⟨by rw [mI_n (by omega)]; exact h1, by rw [mI_n (by omega)]; exact h2, by rw [mI_n (by omega)]; exact h3⟩, WS.fr (fun i => mI_n (by omega)) h4, ⟨cm, by rw [mI_n (by omega)]; exact h5, h5'⟩, by rw [mI_s, hv], by rw [mI_n (by omega)]; exact h7, by rw [mI_n (by omega)]; exact h8, fun i hi => by rw [mI_n (by omega)]; exact h9 i hi⟩
theorem EC.setm {m' : Bool} {v : Int32} (ha : a = 3 ∨ a = 15) (h : EC σ a D W c o w mn) (hv : v = (if m' = true then 1 else 0)) : EC (uI σ 1 16 v) a D W c o w m' := by
  obtain ⟨⟨h1, h2, h3⟩, h4, ⟨cm, h5, h5'⟩, h6, h7, h8, h9⟩ := h
  exact ⟨⟨by rw [mI_n (by omega)]; exact h1, by rw [mI_n (by omega)]; exact h2, by rw [mI_n (by omega)]; exact h3⟩, WS.fr (fun i => mI_n (by omega)) h4, ⟨cm, by rw [mI_n (by omega)]; exact h5, h5'⟩, by rw [mI_n (by omega)]; exact h6, by rw [mI_s, hv], by rw [mI_n (by omega)]; exact h8, fun i hi => by rw [mI_n (by omega)]; exact h9 i hi⟩
/-- the bits at hand, and the others, written anew -/
theorem EC.push {k cm o' : Nat} {v : Int32} (ha : a = 3 ∨ a = 15) (h : EC σ a D W c o w mn) (hk : nI (kcl k) = v) (h13 : mI σ 1 13 = nI o') (h14 : mI σ 1 14 = nI cm) (hc : cm < 2 ^ 9) (hb : cm.testBit (nze (k :: W)) = hCm (k :: W)) (hB : CBs cm (k :: W)) : EC (uI (uI σ 14 W.length v) 1 12 (nI (W.length + 1))) a D (k :: W) c o' w mn := by
  obtain ⟨⟨h1, h2, h3⟩, h4, _, h6, h7, h8, h9⟩ := h
  exact ⟨⟨by rw [mI_n (by omega), mI_n (by omega)]; exact h1, mI_s, by rw [mI_n (by omega), mI_n (by omega)]; exact h13⟩, ⟨by rw [mI_n (by omega), mI_s, hk], WS.fr (fun i => mI_n (by omega)) (h4.push (Nat.le_refl _))⟩, ⟨cm, by rw [mI_n (by omega), mI_n (by omega)]; exact h14, hc, hb, hB⟩, by rw [mI_n (by omega), mI_n (by omega)]; exact h6, by rw [mI_n (by omega), mI_n (by omega)]; exact h7, by rw [mI_n (by omega), mI_n (by omega)]; exact h8, fun i hi => by rw [mI_n (by omega), mI_n (by omega)]; exact h9 i hi⟩
theorem EC.grow {k x y s : Nat} (ha : a = 3 ∨ a = 15) (h : EC σ a D W c o w mn) : EC (uI (uI σ (a + 8) (D 7 0) (nI s)) a 7 (nI (D 7 0 + 1))) a (grw D k x y s) W c o w mn := by
  obtain ⟨⟨h1, h2, h3⟩, h4, ⟨cm, h5, h5'⟩, h6, h7, h8, h9⟩ := h
  refine ⟨⟨by rw [mI_n (by omega), mI_n (by omega)]; exact h1, by rw [mI_n (by omega), mI_n (by omega)]; exact h2, by rw [mI_n (by omega), mI_n (by omega)]; exact h3⟩, WS.fr (fun i => by rw [mI_n (by omega), mI_n (by omega)]) h4, ⟨cm, by rw [mI_n (by omega), mI_n (by omega)]; exact h5, h5'⟩, by rw [mI_n (by omega), mI_n (by omega)]; exact h6, by rw [mI_n (by omega), mI_n (by omega)]; exact h7, by rw [mI_s, grw_7], fun i hi => ?_⟩
  rw [grw_7] at hi
  rw [mI_n (by omega), grw_15]
  by_cases e : i = D 7 0
  · rw [if_pos e, e, mI_s]
  · rw [if_neg e, mI_n (by omega)]; exact h9 i (by omega)
/-- where the bits are untouched, and no comparison is put off -/
theorem EC.push0 {k : Nat} {v : Int32} (ha : a = 3 ∨ a = 15) (h : EC σ a D W c o w mn) (hk : nI (kcl k) = v) (k0 : k ≠ 0) (k4 : sdg k ≠ 4) : EC (uI (uI σ 14 W.length v) 1 12 (nI (W.length + 1))) a D (k :: W) c o w mn := by
  obtain ⟨cm, q1, q2, q3, q4⟩ := h.2.2.1
  refine h.push ha hk h.1.2.2 q1 q2 ?_ ⟨fun z => absurd z k0, q4⟩
  show cm.testBit (nze W + (if k = 0 then 1 else 0)) = (if k = 0 then false else decide (sdg k = 4) || hCm W)
  rw [if_neg k0, if_neg k0, decide_eq_false k4]
  exact q3
theorem fv_uI {σ' : Mm} {x i : Nat} {v : Int32} (h : Fr (Wvv a) σ σ') (hw : Wvv a x i) : Fr (Wvv a) σ (uI σ' x i v) := h.uI hw
theorem c_64y (hS : Sg t σ) (hE : EC σ (18 - t) D W c o w mn) (ho : o < 8) (hl : W.length < 72) (hz : o = nze W) : ∃ σ', Cl 64 [.ref 1] σ (some (.int 1), σ') ∧ Fr (Wvv (18 - t)) σ σ' ∧ EC σ' (18 - t) D (0 :: W) c (o + 1) w true := by
  have ha := hS.ti
  obtain ⟨cm, q1, q2, q3, q4⟩ := hE.2.2.1
  have e1 : nI cm &&& (((1 : Int32) <<< (nI (o + 1) &&& 31)) ^^^ (-1)) = nI (clr cm (o + 1)) := by
    rw [nI_one (by omega), nI_andn]; rfl
  generalize eτ : uI (uI σ 1 13 (nI (o + 1))) 1 14 (nI (clr cm (o + 1))) = τ
  have F : Fr (Wvv (18 - t)) σ τ := by rw [← eτ]; exact ((Fr.rf σ).uI (Or.inl ⟨rfl, by decide⟩)).uI (Or.inl ⟨rfl, by decide⟩)
  have F2 : Fr (Wvv (18 - t)) σ (uI τ 1 16 1) := F.uI (Or.inl ⟨rfl, by decide⟩)
  have E0 : EC (uI τ 1 16 1) (18 - t) D (0 :: W) c (o + 1) w true → True := fun _ => trivial
  have h12 : mI (uI τ 1 16 1) 1 12 = nI W.length := by rw [mI_n (by decide), ← eτ, mI_n (by decide), mI_n (by decide)]; exact hE.1.2.1
  have c1 := c_66 (x := 38) (F2.sg hS) h12 hl
  have E1 : EC (uI (uI (uI τ 1 16 1) 14 W.length 38) 1 12 (nI (W.length + 1))) (18 - t) D (0 :: W) c (o + 1) w true := by
    obtain ⟨⟨h1, h2, h3⟩, h4, _, h6, h7, h8, h9⟩ := hE
    refine ⟨⟨?_, mI_s, ?_⟩, ⟨by rw [mI_n (by omega), mI_s]; rfl, WS.fr (fun i => mI_n (by omega)) (WS.push (Nat.le_refl _) (WS.fr (fun i => ?_) h4))⟩, ⟨clr cm (o + 1), ?_, clr_lt q2, ?_, ⟨fun _ => ?_, CBs.cg (fun i hi => ?_) q4⟩⟩, ?_, ?_, ?_, fun i hi => ?_⟩
    · rw [mI_n (by omega), mI_n (by omega), mI_n (by omega), ← eτ, mI_n (by omega), mI_n (by omega)]; exact h1
    · rw [mI_n (by omega), mI_n (by omega), mI_n (by omega), ← eτ, mI_n (by omega), mI_s]
    · rw [mI_n (by omega), ← eτ, mI_n (by omega), mI_n (by omega)]
    · rw [mI_n (by omega), mI_n (by omega), mI_n (by omega), ← eτ, mI_s]
    · show (clr cm (o + 1)).testBit (nze W + 1) = false
      rw [clr_t, ← hz, decide_eq_false (fun z => z rfl), Bool.and_false]
    · rw [clr_t, decide_eq_true (by omega), Bool.and_true]; exact q3
    · rw [clr_t, decide_eq_true (by omega), Bool.and_true]
    · rw [mI_n (by omega), mI_n (by omega), mI_n (by omega), ← eτ, mI_n (by omega), mI_n (by omega)]; exact h6
    · rw [mI_n (by omega), mI_n (by omega), mI_s]; rfl
    · rw [mI_n (by omega), mI_n (by omega), mI_n (by omega), ← eτ, mI_n (by omega), mI_n (by omega)]; exact h8
    · rw [mI_n (by omega), mI_n (by omega), mI_n (by omega), ← eτ, mI_n (by omega), mI_n (by omega)]; exact h9 i hi
  refine ⟨_, ck_64 hS (b_64_0 hS ?_), (F2.uI (Or.inr (Or.inr (Or.inr rfl)))).uI (Or.inl ⟨rfl, by decide⟩), E1⟩
  rw [hE.1.2.2]
  refine pk_lt o 8 (fun _ σ1 q => ?_) (fun z => absurd z (by omega)) rfl rfl (by omega) (by decide)
  rw [nI_1, mI_n (by decide), q1, mI_s, e1, eτ] at q
  rw [q]
  exact ⟨_, _, c1, F2.sg hS, Or.inr rfl, rfl⟩
theorem c_64n {q : Nat} (hS : Sg t σ) (h : mI σ 1 13 = nI 8) (h7 : mI σ 1 7 = nI q) : ∃ σ', Cl 64 [.ref 1] σ (some (.int 0), σ') ∧ Fr Wrf σ σ' ∧ CF (2, q) σ' := by
  obtain ⟨σ', d, f, r⟩ := c_40 (e := 2) hS h7
  refine ⟨σ', ck_64 hS (b_64_0 hS ?_), f, r⟩
  rw [h]
  exact ⟨fun z => absurd z (by decide), fun _ => ⟨_, _, d, f.sg hS, Or.inl rfl, rfl⟩⟩
/-- where a value is due -/
theorem c_62 {f p : Nat} (hS : Sg t σ) (hE : EC σ (18 - t) D W c o true mn) (hX : XI f n (p, D, W, R, c, o, true, mn)) (k6 : mI σ 1 6 = nI (tK B n p)) (k7 : mI σ 1 7 = nI (tS B n p)) (k8 : mI σ 1 8 = nI (tV B n p)) : OutC (leaf B n p D W R c o mn) 62 (18 - t) σ := by
  have ha := hS.ti
  obtain ⟨x1, x2, x3, ⟨x4, x4'⟩, ⟨x5, x5'⟩, x6, x7, x8⟩ := hX
  dsimp only at x1 x2 x3 x4 x4' x5 x5' x6 x7 x8
  have hln := len_no W
  have hlt := tK_lt B n p
  have hV := tV_lt (B := B) (n := n) (p := p)
  have ik : ∀ m, m < 256 → (nI (tK B n p) = nI m ↔ tK B n p = m) := fun m hm => nI_eq (by omega) (by omega)
  by_cases g1 : tK B n p = 38
  · have el : leaf B n p D W R c o mn = if o = 8 then .inl (2, tS B n p) else .inr (tE B n p, D, 0 :: W, R, c, o + 1, true, true) := if_pos g1
    by_cases g2 : o = 8
    · obtain ⟨σ', d, F, r⟩ := c_64n (q := tS B n p) hS (by rw [hE.1.2.2, g2]) k7
      refine OutC.no (el.trans (if_pos g2)) ⟨σ', ck_62 hS (b_62_0 hS ?_), F.mono (fun _ _ h => wrf_x h), r⟩
      rw [k6]
      exact ⟨fun _ => ⟨_, _, d, F.sg hS, Or.inl rfl, rfl⟩, fun z => absurd ((ik 38 (by decide)).mpr g1) z⟩
    · obtain ⟨σ', d, F, r⟩ := c_64y hS hE (by omega) (by omega) x5
      refine OutC.yes (el.trans (if_neg g2)) ⟨σ', ck_62 hS (b_62_0 hS ?_), F, r⟩
      rw [k6]
      exact ⟨fun _ => ⟨_, _, d, F.sg hS, Or.inr rfl, rfl⟩, fun z => absurd ((ik 38 (by decide)).mpr g1) z⟩
  · have n38 : ¬ nI (tK B n p) = 38 := fun z => g1 ((ik 38 (by decide)).mp z)
    by_cases g2 : tK B n p = 23 ∧ mn = true
    · have el : leaf B n p D W R c o mn = if c = 64 then .inl (2, tS B n p) else .inr (tE B n p, D, 2 :: W, R, c + 1, o, true, mn) := (if_neg g1).trans (if_pos g2)
      have y23 : nI (tK B n p) = 23 := (ik 23 (by decide)).mpr g2.1
      have m1 : mI σ 1 16 = 1 := by rw [hE.2.2.2.2.1, g2.2]; rfl
      by_cases g3 : c = 64
      · obtain ⟨σ', d, F, r⟩ := c_65n (q := tS B n p) hS (by rw [hE.1.1, g3]) k7
        refine OutC.no (el.trans (if_pos g3)) ⟨σ', ck_62 hS (b_62_0 hS ?_), F.mono (fun _ _ h => wrf_x h), r⟩
        rw [k6, m1]
        exact ⟨fun z => absurd z n38, fun _ => ⟨fun _ => ⟨fun z => absurd z (by decide), fun _ => ⟨_, _, d, F.sg hS, fun _ => rfl, fun z => absurd rfl z⟩⟩, fun z => absurd y23 z⟩⟩
      · have E1 := hE.setc (c' := c + 1) ha
        have d1 := c_65y hS hE.1.1 (by omega)
        have S1 : Sg t (uI σ 1 10 (nI (c + 1))) := hS.uI
        have d2 := c_66 (x := 23) S1 E1.1.2.1 (by omega)
        refine OutC.yes (el.trans (if_neg g3)) ⟨_, ck_62 hS (b_62_0 hS ?_), (((Fr.rf σ).uI (Or.inl ⟨rfl, by decide⟩)).uI (Or.inr (Or.inr (Or.inr rfl)))).uI (Or.inl ⟨rfl, by decide⟩), E1.push0 (k := 2) ha rfl (by decide) (by decide)⟩
        rw [k6, m1]
        exact ⟨fun z => absurd z n38, fun _ => ⟨fun _ => ⟨fun z => absurd z (by decide), fun _ => ⟨_, _, d1, S1, fun z => absurd z (by decide), fun _ => ⟨_, _, d2, S1.uI.uI, fun z => absurd z (by decide), fun _ => rfl⟩⟩⟩, fun z => absurd y23 z⟩⟩
    · -- no bracket, no 'not'
      have to52 : ∀ w, Ev 62 52 [.ref 1] [] σ w → Cl 62 [.ref 1] σ w := by
        intro w hw
        refine ck_62 hS (b_62_0 hS ?_)
        rw [k6]
        refine ⟨fun z => absurd z n38, fun _ => ⟨fun z => ⟨fun _ => hw, fun y => ?_⟩, fun _ => hw⟩⟩
        refine absurd ⟨(ik 23 (by decide)).mp z, ?_⟩ g2
        cases hm : mn with
        | true => rfl
        | false => rw [hE.2.2.2.2.1, hm] at y; exact absurd rfl y
      have Ew : EC (uI σ 1 15 0) (18 - t) D W c o false mn := hE.setw ha rfl
      have Fw : Fr (Wvv (18 - t)) σ (uI σ 1 15 0) := (Fr.rf σ).uI (Or.inl ⟨rfl, by decide⟩)
      have Sw : Sg t (uI σ 1 15 0) := hS.uI
      have w7 : mI (uI σ 1 15 0) 1 7 = nI (tS B n p) := by rw [mI_n (by decide)]; exact k7
      have Ec : EC (uI (uI σ 1 15 0) 1 10 (nI (c + 1))) (18 - t) D W (c + 1) o false mn := Ew.setc ha
      have Fc : Fr (Wvv (18 - t)) σ (uI (uI σ 1 15 0) 1 10 (nI (c + 1))) := Fw.uI (Or.inl ⟨rfl, by decide⟩)
      have Sc : Sg t (uI (uI σ 1 15 0) 1 10 (nI (c + 1))) := Sw.uI
      by_cases g3 : tK B n p = 2
      · have y2 : nI (tK B n p) = 2 := (ik 2 (by decide)).mpr g3
        have el : leaf B n p D W R c o mn = if 9999 < tV B n p then .inl (2, tS B n p) else if c = 64 then .inl (2, tS B n p) else .inr (tE B n p, grw D 0 (tV B n p) 0 (tV B n p), W, D 7 0 :: R, c + 1, o, false, mn) := (if_neg g1).trans ((if_neg g2).trans (if_pos g3))
        have w8 : mI (uI σ 1 15 0) 1 8 = nI (tV B n p) := by rw [mI_n (by decide)]; exact k8
        by_cases g4 : 9999 < tV B n p
        · obtain ⟨σ', d, F, r⟩ := c_40 (e := 2) Sw w7
          refine OutC.no (el.trans (if_pos g4)) ⟨σ', to52 _ (b_62_52 hS ?_), (Fw.mono (fun _ _ h => wv_x h)).tr (F.mono (fun _ _ h => wrf_x h)), r⟩
          rw [k6, w8]
          exact ⟨fun _ => ⟨fun _ => ⟨_, _, d, F.sg Sw, Or.inl rfl, rfl⟩, fun z => absurd (nI_lt g4 hV) z⟩, fun z => absurd y2 z⟩
        · have n9 : ¬ (9999 : Int32) < nI (tV B n p) := nI_nlt (a := 9999) (b := tV B n p) (by omega) (by decide)
          by_cases g5 : c = 64
          · obtain ⟨σ', d, F, r⟩ := c_65n (q := tS B n p) Sw (by rw [Ew.1.1, g5]) w7
            refine OutC.no (el.trans ((if_neg g4).trans (if_pos g5))) ⟨σ', to52 _ (b_62_52 hS ?_), (Fw.mono (fun _ _ h => wv_x h)).tr (F.mono (fun _ _ h => wrf_x h)), r⟩
            rw [k6, w8]
            exact ⟨fun _ => ⟨fun z => absurd z n9, fun _ => ⟨_, _, d, F.sg Sw, fun _ => rfl, fun z => absurd rfl z⟩⟩, fun z => absurd y2 z⟩
          · have d1 := c_65y Sw Ew.1.1 (by omega)
            have d2 := c_67 (x := nI (tV B n p)) Sc Ec.2.2.2.2.2.1 (by omega)
            refine OutC.yes (el.trans ((if_neg g4).trans (if_neg g5))) ⟨_, to52 _ (b_62_52 hS ?_), (Fc.uI (Or.inr (Or.inr (Or.inl rfl)))).uI (Or.inr (Or.inl ⟨rfl, rfl⟩)), Ec.grow ha⟩
            rw [k6, w8]
            refine ⟨fun _ => ⟨fun z => absurd z n9, fun _ => ⟨_, _, d1, Sc, fun z => absurd z (by decide), fun _ => ?_⟩⟩, fun z => absurd y2 z⟩
            rw [mI_n (by decide), w8]
            exact ⟨_, _, d2, Sc.uI.uI, fun z => absurd z (by decide), fun _ => rfl⟩
      · have n2 : ¬ nI (tK B n p) = 2 := fun z => g3 ((ik 2 (by decide)).mp z)
        by_cases g4 : 24 ≤ tK B n p ∧ tK B n p ≤ 30
        · have el : leaf B n p D W R c o mn = if c = 64 then .inl (2, tS B n p) else .inr (tE B n p, grw D 1 (tK B n p - 24) 0 (10000 + tK B n p), W, D 7 0 :: R, c + 1, o, false, mn) := (if_neg g1).trans ((if_neg g2).trans ((if_neg g3).trans (if_pos g4)))
          have l24 : ¬ nI (tK B n p) < 24 := nI_nlt (b := 24) g4.1 (by omega)
          have l30 : ¬ (30 : Int32) < nI (tK B n p) := nI_nlt (a := 30) g4.2 (by decide)
          by_cases g5 : c = 64
          · obtain ⟨σ', d, F, r⟩ := c_65n (q := tS B n p) Sw (by rw [Ew.1.1, g5]) w7
            refine OutC.no (el.trans (if_pos g5)) ⟨σ', to52 _ (b_62_52 hS ?_), (Fw.mono (fun _ _ h => wv_x h)).tr (F.mono (fun _ _ h => wrf_x h)), r⟩
            rw [k6]
            exact ⟨fun z => absurd z n2, fun _ => ⟨fun z => absurd z l24, fun _ => ⟨fun z => absurd z l30, fun _ => ⟨_, _, d, F.sg Sw, fun _ => rfl, fun z => absurd rfl z⟩⟩⟩⟩
          · have d1 := c_65y Sw Ew.1.1 (by omega)
            have d2 := c_67 (x := nI (10000 + tK B n p)) Sc Ec.2.2.2.2.2.1 (by omega)
            refine OutC.yes (el.trans (if_neg g5)) ⟨_, to52 _ (b_62_52 hS ?_), (Fc.uI (Or.inr (Or.inr (Or.inl rfl)))).uI (Or.inr (Or.inl ⟨rfl, rfl⟩)), Ec.grow ha⟩
            rw [k6]
            refine ⟨fun z => absurd z n2, fun _ => ⟨fun z => absurd z l24, fun _ => ⟨fun z => absurd z l30, fun _ => ⟨_, _, d1, Sc, fun z => absurd z (by decide), fun _ => ?_⟩⟩⟩⟩
            rw [mI_n (by decide), mI_n (by decide), k6, show (10000 : Int32) = nI 10000 from rfl, nI_add]
            exact ⟨_, _, d2, Sc.uI.uI, fun z => absurd z (by decide), fun _ => rfl⟩
        · have el : leaf B n p D W R c o mn = .inl (1, tS B n p) := (if_neg g1).trans ((if_neg g2).trans ((if_neg g3).trans (if_neg g4)))
          obtain ⟨σ', d, F, r⟩ := c_40 (e := 1) hS k7
          have gd : ∃ (v : Int32) (σ1 : Mm), Cl 40 [.ref 1, .int 1] σ (some (.int v), σ1) ∧ Sg t σ1 ∧ ((v = 0 ∨ v = 1) ∧ ((some (.int 0), σ') : Option Value × Mm) = (some (.int v), σ1)) := ⟨_, _, d, F.sg hS, Or.inl rfl, rfl⟩
          refine OutC.no el ⟨σ', to52 _ (b_62_52 hS ?_), F.mono (fun _ _ h => wrf_x h), r⟩
          rw [k6]
          refine ⟨fun z => absurd z n2, fun _ => pk_lt (tK B n p) 24 (fun _ => gd) (fun l1 => pk_lt 30 (tK B n p) (fun _ => gd) (fun l2 => absurd ⟨l1, l2⟩ g4) rfl rfl (by decide) (by omega)) rfl rfl (by omega) (by decide)⟩
end ExC2
