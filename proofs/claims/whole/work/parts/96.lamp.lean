/-! ===== lamp, second side ===== -/
section LampM
variable {t : Nat} {σ : Mm} {D H : Nat → Nat → Nat}
theorem c_215 {x : Int32} (hS : Sg t σ) : Cl 215 [.ref 59, .int x] σ (some (.int 0), uI σ 59 2 x) := ck_215 hS (b_215_0 hS rfl)
theorem m_lampn {x y : Int32} (hq : Q t σ D H) (hb : Bad x (D 0 0)) : Cl 216 [.ref 59, .int x, .int y] σ (some (.int 0), uI (uI σ 59 2 0) 59 2 1) :=
  ck_216 hq.sg (b_216_0 hq.sg ⟨_, _, c_199n hq.th.sg hq.th.mt.1.1 hb, hq.th.sg, fun _ => ⟨_, _, c_215 hq.th.sg, hq.th.sg, rfl⟩, fun z => absurd rfl z⟩)
/-- what lamp answers, where it answers -/
def lmv (H : Nat → Nat → Nat) (l : Nat) (y : Int32) : Int32 := if y = 0 then (nI (H 1 0) >>> (nI l &&& 31)) &&& 1 else if y = 1 then (nI (H 2 0) >>> (nI l &&& 31)) &&& 1 else if y = 2 then nI (H 7 l) else nI (tdl (H 8) l 10)
theorem m_lampy {l : Nat} {y : Int32} (hq : Q t σ D H) (hl : l < D 0 0) (hy : y = 0 ∨ y = 1 ∨ y = 2 ∨ y = 3) : Cl 216 [.ref 59, .int (nI l), .int y] σ (some (.int (lmv H l y)), uI σ 59 2 0) := by
  have hL := hq.hL
  have q := hq.th
  have h4 := c_204 (t := t) (σ := uI σ 59 2 0) (b := 0) (l := l) (o := 1023) (P := D 1 0) (ties := H 8) q.sg (by decide) (by omega) (by decide) q.mt.1.2.1 hq.hP q.mh.2.2.1 (fun i _ => hq.hb i)
  rw [tdo_eq hq.hP hq.wh.2.2.2.2.2.2.2.2.2, tdl_1023] at h4
  have e88 : mI (uI σ 59 2 0) 88 l = nI (H 7 l) := by
    have := q.mh.2.1 l (by omega)
    rw [Nat.mul_zero, Nat.zero_add] at this
    exact this
  refine ck_216 hq.sg (b_216_0 hq.sg ⟨_, _, c_199y q.sg q.mt.1.1 (by omega) hl, q.sg, fun z => absurd z n10, fun _ => ?_⟩)
  rw [show mI (uI σ 59 2 0) 82 0 = _ from q.mh.1.1, show mI (uI σ 59 2 0) 83 0 = _ from q.mh.1.2.1, nI_clamp (by omega), e88]
  refine ⟨fun z => by rw [z]; rfl, fun z => by rw [z]; rfl, fun z => ⟨inb_nI (by omega) (by decide), by rw [z]; rfl⟩, fun z => ⟨_, _, h4, q.sg, by rw [z]; rfl⟩, fun z => absurd hy (fun w => w.elim z.1 (fun w => w.elim z.2.1 (fun w => w.elim z.2.2.1 z.2.2.2)))⟩
theorem m_lampw {l : Nat} {y : Int32} (hq : Q t σ D H) (hl : l < D 0 0) (hy : ¬ (y = 0 ∨ y = 1 ∨ y = 2 ∨ y = 3)) : Cl 216 [.ref 59, .int (nI l), .int y] σ (some (.int 0), uI (uI σ 59 2 0) 59 2 2) := by
  have hL := hq.hL
  exact ck_216 hq.sg (b_216_0 hq.sg ⟨_, _, c_199y hq.th.sg hq.th.mt.1.1 (by omega) hl, hq.th.sg, fun z => absurd z n10, fun _ => ⟨fun z => absurd (Or.inl z) hy, fun z => absurd (Or.inr (Or.inl z)) hy, fun z => absurd (Or.inr (Or.inr (Or.inl z))) hy, fun z => absurd (Or.inr (Or.inr (Or.inr z))) hy, fun _ => ⟨_, _, c_215 hq.th.sg, hq.th.sg, rfl⟩⟩⟩)
end LampM
