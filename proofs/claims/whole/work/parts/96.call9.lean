/-! ===== calls: count ===== -/
section Call9
variable {t : Nat} {σ : Mm} {D H : Nat → Nat → Nat}
def cnv (D H : Nat → Nat → Nat) (n u : Nat) (kn x : Int32) : Int32 := if x = 0 then nI (D 0 0) else if x = 1 then nI (D 1 0) else if x = 2 then nI (D 3 0) else if x = 3 then nI (D 7 0) else if x = 4 then nI (H 0 0) else if x = 5 then nI (pcn (sh H)) else if x = 6 then nI (pcn (H 1 0)) else if x = 7 then nI (pcn (H 2 0)) else if x = 8 then nI (pcn (H 3 0)) else if x = 9 then nI (H 4 0) else if x = 10 then nI (H 5 0) else if x = 11 then nI (nti (H 8) 10) else if x = 12 then nI n else if x = 13 then kn else if x = 14 then nI u else -1
theorem i_count {x : Int32} (h : Inv t σ D H) : PrI 141 272 [.int x] σ := by
  obtain ⟨hq, _, _, ⟨u, nx, G, u1, u2, u3, u4, u5, u6, u7⟩, ⟨n, kx, W, T, S, h0, h1, h2, h3, h4, h5, h6⟩⟩ := h
  have hP := hq.hP
  have S' := hq.th.sg
  have w1 := hq.on
  have w2 := hq.wh.2.2.1
  have w3 := hq.wh.2.2.2.1
  have ws : H 1 0 ^^^ (H 1 0 &&& H 2 0) < 2 ^ 14 := sh_lt hq.wh
  have c30 : Cl 30 [.ref 49] σ (some (.int (if kx = -1 then nI n else kx)), σ) := by
    refine ck_30 hq.sg (b_30_0 hq.sg ?_)
    rw [h3, h1]
    exact ⟨fun z => by rw [if_pos z], fun z => by rw [if_neg z]⟩
  have c257 : Cl 257 [.ref 59] (uI σ 59 2 0) (some (.int (if kx = -1 then nI n else kx)), uI σ 59 2 0) := by
    refine ck_257 S' (b_257_0 S' ?_)
    rw [mI_n (by omega), mI_n (by omega), h4, h2]
    rcases h5 with e | ⟨m, hm, e⟩
    · rw [e]; exact ⟨fun _ => rfl, fun z => absurd (by decide) z⟩
    · have ne : ¬ kx = -1 := fun z => by
        rw [e, fa_eq, nI_toInt (by omega)] at z
        have z : (m : Int) = -1 := z
        omega
      rw [if_neg ne, e]
      exact ⟨fun z => absurd z (nI_pos (by omega)), fun _ => rfl⟩
  refine PrI.mk0 hq (v := cnv D H n u (if kx = -1 then nI n else kx) x) (ck_141 hq.sg (b_141_0 hq.sg ?_)) ⟨_, ck_272 hq.sg (b_272_0 hq.sg ?_), wq_th⟩
  · rw [hq.ct.1.1, hq.ct.1.2.1, hq.ct.1.2.2.2.1, hq.ct.2.2.2.1, hq.ch.1 0 (by decide), hq.ch.1 1 (by decide), hq.ch.1 2 (by decide), hq.ch.1 3 (by decide), hq.ch.1 4 (by decide), hq.ch.1 5 (by decide), h1, u3]
    refine ⟨fun z => by rw [z]; rfl, fun z => by rw [z]; rfl, fun z => by rw [z]; rfl, fun z => by rw [z]; rfl, fun z => by rw [z]; rfl, fun z => ⟨_, _, c_20 hq.sg (Or.inl rfl) (hq.ch.1 1 (by decide)) (hq.ch.1 2 (by decide)), hq.sg, _, _, c_276 hq.sg ws, hq.sg, by rw [z]; rfl⟩, fun z => ⟨_, _, c_276 hq.sg w1, hq.sg, by rw [z]; rfl⟩, fun z => ⟨_, _, c_276 hq.sg w2, hq.sg, by rw [z]; rfl⟩, fun z => ⟨_, _, c_276 hq.sg (by omega), hq.sg, by rw [z]; rfl⟩, fun z => by rw [z]; rfl, fun z => by rw [z]; rfl, fun z => ⟨_, _, c_23 hq.sg (Or.inl rfl) hq.ch.2.2.1 (fun i _ => hq.hb i), hq.sg, by rw [z]; rfl⟩, fun z => by rw [z]; rfl, fun z => ⟨_, _, c30, hq.sg, by rw [z]; rfl⟩, fun z => by rw [z]; rfl, fun z => ?_⟩
    obtain ⟨z0, z1, z2, z3, z4, z5, z6, z7, z8, z9, z10, z11, z12, z13, z14⟩ := z
    unfold cnv
    rw [if_neg z0, if_neg z1, if_neg z2, if_neg z3, if_neg z4, if_neg z5, if_neg z6, if_neg z7, if_neg z8, if_neg z9, if_neg z10, if_neg z11, if_neg z12, if_neg z13, if_neg z14]
  · have q := hq.th
    have m68 : mI (uI σ 59 2 0) 59 68 = nI n := by rw [mI_n (by omega)]; exact h2
    have m72 : mI (uI σ 59 2 0) 59 72 = nI u := by rw [mI_n (by omega)]; exact u5
    rw [q.mt.1.1, q.mt.1.2.1, q.mt.1.2.2.2.1, q.mt.2.2.2.1, show mI (uI σ 59 2 0) 87 0 = _ from q.mh.1.2.2.2.2.2, show mI (uI σ 59 2 0) 82 0 = _ from q.mh.1.1, show mI (uI σ 59 2 0) 83 0 = _ from q.mh.1.2.1, show mI (uI σ 59 2 0) 84 0 = _ from q.mh.1.2.2.1, show mI (uI σ 59 2 0) 85 0 = _ from q.mh.1.2.2.2.1, show mI (uI σ 59 2 0) 86 0 = _ from q.mh.1.2.2.2.2.1, m68, m72]
    refine ⟨fun z => by rw [z]; rfl, fun z => by rw [z]; rfl, fun z => by rw [z]; rfl, fun z => by rw [z]; rfl, fun z => by rw [z]; rfl, fun z => ⟨_, _, c_203 (b := 0) S' (by decide) q.mh.1.1 q.mh.1.2.1, S', _, _, c_202 S' (by omega), S', by rw [z]; rfl⟩, fun z => ⟨_, _, c_202 S' (by omega), S', by rw [z]; rfl⟩, fun z => ⟨_, _, c_202 S' (by omega), S', by rw [z]; rfl⟩, fun z => ⟨_, _, c_202 S' (by omega), S', by rw [z]; rfl⟩, fun z => by rw [z]; rfl, fun z => by rw [z]; rfl, fun z => ?_, fun z => by rw [z]; rfl, fun z => ⟨_, _, c257, S', by rw [z]; rfl⟩, fun z => by rw [z]; rfl, fun z => ?_⟩
    · have e : cnv D H n u (if kx = -1 then nI n else kx) x = nI (nti (H 8) (D 1 0)) := by
        rw [z, ← nti_hi hq.wh.2.2.2.2.2.2.2.2.2 10 hP]; rfl
      rw [e]
      refine up_to (fun k => Ev 272 166 [.ref 59, .int x, .int (nI (nti (H 8) k)), .int (nI k)] [] (uI σ 59 2 0) (some (.int (nI (nti (H 8) (D 1 0)))), uI σ 59 2 0)) (D 1 0) ?_ ?_ 0 (Nat.zero_le _)
      · intro k hk ih
        have hb := hq.hb k
        refine b_272_166 S' ?_
        rw [q.mt.1.2.1, nI_clamp (by omega), q.mties k hk, nI_1]
        refine pk_lt k (D 1 0) (fun _ => ⟨inb_nI (by omega) (by decide), _, _, c_202 S' (by omega), S', ?_⟩) (fun w => absurd w (by omega)) rfl rfl (by omega) (by omega)
        rw [nI_add]; exact ih
      · refine b_272_166 S' ?_
        rw [q.mt.1.2.1]
        exact pk_lt (D 1 0) (D 1 0) (fun w => absurd w (Nat.lt_irrefl _)) (fun _ => rfl) rfl rfl (by omega) (by omega)
    · obtain ⟨z0, z1, z2, z3, z4, z5, z6, z7, z8, z9, z10, z11, z12, z13, z14⟩ := z
      unfold cnv
      rw [if_neg z0, if_neg z1, if_neg z2, if_neg z3, if_neg z4, if_neg z5, if_neg z6, if_neg z7, if_neg z8, if_neg z9, if_neg z10, if_neg z11, if_neg z12, if_neg z13, if_neg z14]
end Call9
