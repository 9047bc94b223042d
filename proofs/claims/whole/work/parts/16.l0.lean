/-! ===== lamp's throws: the words ===== -/
abbrev nIO : String := "java/lang/IndexOutOfBoundsException"
abbrev nNS : String := "java/util/NoSuchElementException"
abbrev nRT : String := "java/lang/RuntimeException"
abbrev nEX : String := "java/lang/Exception"
abbrev rxN : ByteArray := prog_28_method_4_code
def lmT : List Cond := tables_1_1 ++ (tables_1_5 ++ tables_1_6)
theorem lmT_in : ∀ w ∈ lmT, w ∈ lw_tbl := by
  intro w h
  rcases List.mem_append.mp h with h | h
  · exact tbk_in 0 w h
  · rcases List.mem_append.mp h with h | h
    · exact tbk_in 4 w h
    · exact tbk_in 5 w h
def lmW (w : Cond) : Bool := goodWord w || (match w with
  | .declares _ => true
  | .castable _ _ => true
  | .methodLinkNest _ _ _ _ => true
  | _ => false)
set_option maxRecDepth 100000 in
theorem lm_a1 : ∀ w ∈ vy_at "BellPulls" 127 nIO 7 Bundle.six nRT [nEX], w ∈ lmT := by decide +kernel
set_option maxRecDepth 100000 in
theorem lm_a2 : ∀ w ∈ vy_at "BellPulls" 147 nNS 13 rxN nRT [nEX], w ∈ lmT := by decide +kernel
theorem lm_g1 : ∀ w ∈ vy_at "BellPulls" 127 nIO 7 Bundle.six nRT [nEX], lmW w = true := by decide +kernel
theorem lm_g2 : ∀ w ∈ vy_at "BellPulls" 147 nNS 13 rxN nRT [nEX], lmW w = true := by decide +kernel
theorem lm_o1 : ∀ w ∈ Cond.classLink "BellPulls" 123 nIO :: Cond.initialized nIO :: vy_at "BellPulls" 127 nIO 7 Bundle.six nRT [nEX], vx_ot w = true := by decide +kernel
theorem lm_o2 : ∀ w ∈ Cond.classLink "BellPulls" 143 nNS :: Cond.initialized nNS :: vy_at "BellPulls" 147 nNS 13 rxN nRT [nEX], vx_ot w = true := by decide +kernel
theorem lm_k1 : Cond.classLink "BellPulls" 123 nIO ∈ lw_tbl := tb_at 4 218 rfl
theorem lm_k2 : Cond.classLink "BellPulls" 143 nNS ∈ lw_tbl := tb_at 5 44 rfl
theorem lm_i1 : Cond.initialized nIO ∈ lw_tbl := tb_at 0 20 rfl
theorem lm_i2 : Cond.initialized nNS ∈ lw_tbl := tb_at 0 21 rfl
theorem lm_c1 : Cond.castable nIO nIO ∈ lw_tbl := tb_at 4 220 rfl
theorem lm_c2 : Cond.castable nNS nNS ∈ lw_tbl := tb_at 5 46 rfl
theorem lm_l1 : Cond.classLink "BellPullsLaw" 13 nIO ∈ lw_tbl := tb_at 4 212 rfl
theorem lm_l2 : Cond.classLink "BellPullsLaw" 15 nNS ∈ lw_tbl := tb_at 4 213 rfl
theorem lm_m : Cond.methodLink "BellPullsLaw" 39 yL_lamp ∈ lw_tbl ∧ Cond.static yL_lamp ∈ lw_tbl ∧ Cond.codeWith yL_lamp cL_lamp 5 (some .int) [(0, 10, 13, 13), (0, 10, 17, 15)] ∈ lw_tbl ∧ Cond.initialized "BellPullsLaw" ∈ lw_tbl := ⟨tb_at 4 209 rfl, tb_at 4 210 rfl, tb_at 4 211 rfl, tb_at 0 0 rfl⟩
theorem lm_x : Cond.methodLink "BellPullsLaw" 7 yX8_lamp ∈ lw_tbl ∧ Cond.instanceMethod yX8_lamp ∈ lw_tbl ∧ Cond.selects "BellPulls" yX8_lamp yX8_lamp ∈ lw_tbl ∧ Cond.initialized "BellPulls" ∈ lw_tbl := ⟨tb_at 4 214 rfl, tb_at 4 215 rfl, tb_at 4 216 rfl, tb_at 0 1 rfl⟩
theorem lm_six : decode Bundle.six 0 = .ok (.aload_n 0, 1) ∧ decode Bundle.six 1 = .ok (.aload_n 1, 1) ∧ decode Bundle.six 2 = .ok (.invokespecial 7, 3) ∧ decode Bundle.six 5 = .ok (.return_, 1) := ⟨Bundle.six_0, Bundle.six_1, Bundle.six_2, Bundle.six_5⟩
theorem lm_rxN : decode rxN 0 = .ok (.aload_n 0, 1) ∧ decode rxN 1 = .ok (.aload_n 1, 1) ∧ decode rxN 2 = .ok (.invokespecial 13, 3) ∧ decode rxN 5 = .ok (.return_, 1) := ⟨by decide +kernel, by decide +kernel, by decide +kernel, by decide +kernel⟩
theorem lm_fit : Bundle.fit nIO = true ∧ Bundle.fit nNS = true ∧ Bundle.fit nRT = true ∧ (∀ n ∈ [nEX], Bundle.fit n = true) := ⟨by decide +kernel, by decide +kernel, by decide +kernel, by decide +kernel⟩
theorem wx_0 : decode cX8_lamp 0 = .ok (.aload_n 0, 1) := by decide +kernel
theorem wx_1 : decode cX8_lamp 1 = .ok (.iload_n 1, 1) := by decide +kernel
theorem wx_2 : decode cX8_lamp 2 = .ok (.invokevirtual 119, 3) := by decide +kernel
theorem wx_5 : decode cX8_lamp 5 = .ok (.ifCond .ne 13, 3) := by decide +kernel
theorem wx_8 : decode cX8_lamp 8 = .ok (.new 123, 3) := by decide +kernel
theorem wx_11 : decode cX8_lamp 11 = .ok (.dup, 1) := by decide +kernel
theorem wx_12 : decode cX8_lamp 12 = .ok (.ldc 125, 2) := by decide +kernel
theorem wx_14 : decode cX8_lamp 14 = .ok (.invokespecial 127, 3) := by decide +kernel
theorem wx_17 : decode cX8_lamp 17 = .ok (.athrow, 1) := by decide +kernel
theorem wx_18 : decode cX8_lamp 18 = .ok (.iload_n 2, 1) := by decide +kernel
theorem wx_19 : decode cX8_lamp 19 = .ok (.tableswitch 72 0 3 #[29, 41, 53, 63], 29) := by decide +kernel
theorem wx_48 : decode cX8_lamp 48 = .ok (.aload_n 0, 1) := by decide +kernel
theorem wx_49 : decode cX8_lamp 49 = .ok (.getfield 28, 3) := by decide +kernel
theorem wx_52 : decode cX8_lamp 52 = .ok (.getfield 130, 3) := by decide +kernel
theorem wx_55 : decode cX8_lamp 55 = .ok (.iload_n 1, 1) := by decide +kernel
theorem wx_56 : decode cX8_lamp 56 = .ok (.ishr, 1) := by decide +kernel
theorem wx_57 : decode cX8_lamp 57 = .ok (.iconst 1, 1) := by decide +kernel
theorem wx_58 : decode cX8_lamp 58 = .ok (.iand, 1) := by decide +kernel
theorem wx_59 : decode cX8_lamp 59 = .ok (.ireturn, 1) := by decide +kernel
theorem wx_60 : decode cX8_lamp 60 = .ok (.aload_n 0, 1) := by decide +kernel
theorem wx_61 : decode cX8_lamp 61 = .ok (.getfield 28, 3) := by decide +kernel
theorem wx_64 : decode cX8_lamp 64 = .ok (.getfield 133, 3) := by decide +kernel
theorem wx_67 : decode cX8_lamp 67 = .ok (.iload_n 1, 1) := by decide +kernel
theorem wx_68 : decode cX8_lamp 68 = .ok (.ishr, 1) := by decide +kernel
theorem wx_69 : decode cX8_lamp 69 = .ok (.iconst 1, 1) := by decide +kernel
theorem wx_70 : decode cX8_lamp 70 = .ok (.iand, 1) := by decide +kernel
theorem wx_71 : decode cX8_lamp 71 = .ok (.ireturn, 1) := by decide +kernel
theorem wx_72 : decode cX8_lamp 72 = .ok (.aload_n 0, 1) := by decide +kernel
theorem wx_73 : decode cX8_lamp 73 = .ok (.getfield 28, 3) := by decide +kernel
theorem wx_76 : decode cX8_lamp 76 = .ok (.getfield 136, 3) := by decide +kernel
theorem wx_79 : decode cX8_lamp 79 = .ok (.iload_n 1, 1) := by decide +kernel
theorem wx_80 : decode cX8_lamp 80 = .ok (.iaload, 1) := by decide +kernel
theorem wx_81 : decode cX8_lamp 81 = .ok (.ireturn, 1) := by decide +kernel
theorem wx_82 : decode cX8_lamp 82 = .ok (.aload_n 0, 1) := by decide +kernel
theorem wx_83 : decode cX8_lamp 83 = .ok (.getfield 28, 3) := by decide +kernel
theorem wx_86 : decode cX8_lamp 86 = .ok (.iload_n 1, 1) := by decide +kernel
theorem wx_87 : decode cX8_lamp 87 = .ok (.invokevirtual 140, 3) := by decide +kernel
theorem wx_90 : decode cX8_lamp 90 = .ok (.ireturn, 1) := by decide +kernel
theorem wx_91 : decode cX8_lamp 91 = .ok (.new 143, 3) := by decide +kernel
theorem wx_94 : decode cX8_lamp 94 = .ok (.dup, 1) := by decide +kernel
theorem wx_95 : decode cX8_lamp 95 = .ok (.ldc 145, 2) := by decide +kernel
theorem wx_97 : decode cX8_lamp 97 = .ok (.invokespecial 147, 3) := by decide +kernel
theorem wx_100 : decode cX8_lamp 100 = .ok (.athrow, 1) := by decide +kernel
theorem wl_0 : decode cL_lamp 0 = .ok (.aload_n 3, 1) := by decide +kernel
theorem wl_1 : decode cL_lamp 1 = .ok (.iconst 0, 1) := by decide +kernel
theorem wl_2 : decode cL_lamp 2 = .ok (.aload_n 0, 1) := by decide +kernel
theorem wl_3 : decode cL_lamp 3 = .ok (.iload_n 1, 1) := by decide +kernel
theorem wl_4 : decode cL_lamp 4 = .ok (.iload_n 2, 1) := by decide +kernel
theorem wl_5 : decode cL_lamp 5 = .ok (.invokevirtual 7, 3) := by decide +kernel
theorem wl_8 : decode cL_lamp 8 = .ok (.i2l, 1) := by decide +kernel
theorem wl_9 : decode cL_lamp 9 = .ok (.lastore, 1) := by decide +kernel
theorem wl_10 : decode cL_lamp 10 = .ok (.goto 11, 3) := by decide +kernel
theorem wl_13 : decode cL_lamp 13 = .ok (.astore 4, 2) := by decide +kernel
theorem wl_15 : decode cL_lamp 15 = .ok (.iconst 1, 1) := by decide +kernel
theorem wl_16 : decode cL_lamp 16 = .ok (.ireturn, 1) := by decide +kernel
theorem wl_17 : decode cL_lamp 17 = .ok (.astore 4, 2) := by decide +kernel
theorem wl_19 : decode cL_lamp 19 = .ok (.iconst 2, 1) := by decide +kernel
theorem wl_20 : decode cL_lamp 20 = .ok (.ireturn, 1) := by decide +kernel
theorem wl_21 : decode cL_lamp 21 = .ok (.iconst 0, 1) := by decide +kernel
theorem wl_22 : decode cL_lamp 22 = .ok (.ireturn, 1) := by decide +kernel
section LmW
variable {p : Program} {l : Launch} {e : Env} {R : Room} {s : State} {m : MethodId} {args : Array Value} {below : List Frame} {meth : Method} {c : Code} {ad : Nat → Nat} {A : Nat → Prop}
theorem lm_bef (hts : ∀ w ∈ lw_tbl, goodWord w = true → w.before args s = true) (hS : SpE ad A s) {w : Cond} (h : w ∈ lw_tbl) (hg : lmW w = true) : w.before args s = true := by
  unfold lmW at hg
  rcases Bool.or_eq_true _ _ ▸ hg with hg | hg
  · exact hts w h hg
  · split at hg
    · exact (hS.2.1 _ h).use rfl
    · exact (hS.2.2.1 _ _ h).use rfl
    · exact (hS.1 _ _ _ _ h).use rfl
    · cases hg
end LmW
