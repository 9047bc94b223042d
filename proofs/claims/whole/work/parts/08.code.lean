theorem tbk_in : ∀ (k : Nat) (w : Cond), w ∈ tbk k → w ∈ lw_tbl := by
  intro k w h
  refine List.mem_append.mpr (Or.inr ?_)
  show w ∈ tables_1_1 ++ (tables_1_2 ++ (tables_1_3 ++ (tables_1_4 ++ (tables_1_5 ++ (tables_1_6 ++ (tables_1_7 ++ (tables_1_8 ++ tables_1_9)))))))
  simp only [List.mem_append]
  match k, h with
  | 0, h => exact Or.inl h
  | 1, h => exact Or.inr (Or.inl h)
  | 2, h => exact Or.inr (Or.inr (Or.inl h))
  | 3, h => exact Or.inr (Or.inr (Or.inr (Or.inl h)))
  | 4, h => exact Or.inr (Or.inr (Or.inr (Or.inr (Or.inl h))))
  | 5, h => exact Or.inr (Or.inr (Or.inr (Or.inr (Or.inr (Or.inl h)))))
  | 6, h => exact Or.inr (Or.inr (Or.inr (Or.inr (Or.inr (Or.inr (Or.inl h))))))
  | 7, h => exact Or.inr (Or.inr (Or.inr (Or.inr (Or.inr (Or.inr (Or.inr (Or.inl h)))))))
  | 8, h => exact Or.inr (Or.inr (Or.inr (Or.inr (Or.inr (Or.inr (Or.inr (Or.inr h)))))))
  | k + 9, h => exact absurd h List.not_mem_nil
theorem tb_at (k i : Nat) {w : Cond} (h : (tbk k)[i]? = some w) : w ∈ lw_tbl := tbk_in k w (List.mem_of_getElem? h)
theorem hasW_in {i : Nat} {w : Cond} (h : hasW i w = true) : w ∈ lw_tbl := by
  unfold hasW at h
  split at h
  next v hv => exact of_decide_eq_true h ▸ tb_at _ _ hv
  next => cases h
theorem hasP_in {i : Nat} {w : Cond} (h : hasP i w = true) : w ∈ lw_tbl := by
  unfold hasP at h
  split at h
  next v hv =>
    refine List.mem_append.mpr (Or.inl ?_)
    rw [← of_decide_eq_true h]
    exact List.mem_map.mpr ⟨v, List.mem_of_getElem? hv, rfl⟩
  next => cases h
def cwOk (e : mRow) : Prop := e.2.1 = yL_law ∨ Cond.code e.2.1 e.2.2.1 e.2.2.2.1 e.2.2.2.2.1 ∈ lw_tbl
theorem cw_X0_init : Cond.code yX0_init cX0_init 1 (none) ∈ lw_tbl := tb_at 1 159 rfl
theorem cw_X0_settle : Cond.code yX0_settle cX0_settle 7 (some .int) ∈ lw_tbl := tb_at 4 12 rfl
theorem cw_X0_partsOf : Cond.code yX0_partsOf cX0_partsOf 2 (some .int) ∈ lw_tbl := tb_at 4 32 rfl
theorem cw_X0_reduce : Cond.code yX0_reduce cX0_reduce 3 (none) ∈ lw_tbl := tb_at 4 16 rfl
theorem cw_X1_init : Cond.code yX1_init cX1_init 1 (none) ∈ lw_tbl := tb_at 1 21 rfl
theorem cw_X1_asDrawn : Cond.code yX1_asDrawn cX1_asDrawn 1 (none) ∈ lw_tbl := tb_at 3 98 rfl
theorem cw_X1_asItGoes : Cond.code yX1_asItGoes cX1_asItGoes 1 (none) ∈ lw_tbl := tb_at 3 174 rfl
theorem cw_X1_otherwise : Cond.code yX1_otherwise cX1_otherwise 3 (none) ∈ lw_tbl := tb_at 3 102 rfl
theorem cw_X1_run : Cond.code yX1_run cX1_run 6 (none) ∈ lw_tbl := tb_at 3 137 rfl
theorem cw_X1_rung : Cond.code yX1_rung cX1_rung 8 (none) ∈ lw_tbl := tb_at 3 106 rfl
theorem cw_X1_age : Cond.code yX1_age cX1_age 8 (none) ∈ lw_tbl := tb_at 3 147 rfl
theorem cw_X1_worth : Cond.code yX1_worth cX1_worth 6 (some .long) ∈ lw_tbl := tb_at 3 51 rfl
theorem cw_X1_reckon : Cond.code yX1_reckon cX1_reckon 7 (some .long) ∈ lw_tbl := tb_at 3 68 rfl
theorem cw_X1_joined : Cond.code yX1_joined cX1_joined 5 (some .long) ∈ lw_tbl := tb_at 3 74 rfl
theorem cw_X1_asValue : Cond.code yX1_asValue cX1_asValue 1 (some .long) ∈ lw_tbl := tb_at 3 71 rfl
theorem cw_X1_bounded : Cond.code yX1_bounded cX1_bounded 2 (some .long) ∈ lw_tbl := tb_at 3 77 rfl
theorem cw_X1_product : Cond.code yX1_product cX1_product 4 (some .long) ∈ lw_tbl := tb_at 3 82 rfl
theorem cw_X2_init : Cond.code yX2_init cX2_init 1 (none) ∈ lw_tbl := tb_at 0 199 rfl
theorem cw_X2_begin : Cond.code yX2_begin cX2_begin 3 (none) ∈ lw_tbl := tb_at 3 0 rfl
theorem cw_X2_become : Cond.code yX2_become cX2_become 2 (none) ∈ lw_tbl := tb_at 3 167 rfl
theorem cw_X2_shownLamps : Cond.code yX2_shownLamps cX2_shownLamps 1 (some .int) ∈ lw_tbl := tb_at 3 38 rfl
theorem cw_X2_freePulls : Cond.code yX2_freePulls cX2_freePulls 2 (some .int) ∈ lw_tbl := tb_at 3 194 rfl
theorem cw_X2_pullsTiedTo : Cond.code yX2_pullsTiedTo cX2_pullsTiedTo 4 (some .int) ∈ lw_tbl := tb_at 3 64 rfl
theorem cw_X2_howManyTies : Cond.code yX2_howManyTies cX2_howManyTies 3 (some .int) ∈ lw_tbl := tb_at 4 206 rfl
theorem cw_X2_makeWhole : Cond.code yX2_makeWhole cX2_makeWhole 1 (none) ∈ lw_tbl := tb_at 3 129 rfl
theorem cw_X2_draw : Cond.code yX2_draw cX2_draw 1 (some .int) ∈ lw_tbl := tb_at 3 156 rfl
theorem cw_X3_init : Cond.code yX3_init cX3_init 1 (none) ∈ lw_tbl := tb_at 1 85 rfl
theorem cw_X3_forget : Cond.code yX3_forget cX3_forget 1 (none) ∈ lw_tbl := tb_at 3 8 rfl
theorem cw_X3_write : Cond.code yX3_write cX3_write 4 (some .int) ∈ lw_tbl := tb_at 4 120 rfl
theorem cw_X3_writeStrike : Cond.code yX3_writeStrike cX3_writeStrike 2 (some .int) ∈ lw_tbl := tb_at 4 128 rfl
theorem cw_X3_howManyKnown : Cond.code yX3_howManyKnown cX3_howManyKnown 1 (some .int) ∈ lw_tbl := tb_at 4 153 rfl
theorem cw_X3_look : Cond.code yX3_look cX3_look 6 (some .int) ∈ lw_tbl := tb_at 4 145 rfl
theorem cw_X3_isFitting : Cond.code yX3_isFitting cX3_isFitting 3 (some .boolean) ∈ lw_tbl := tb_at 4 162 rfl
theorem cw_X3_gatherKnown : Cond.code yX3_gatherKnown cX3_gatherKnown 3 (none) ∈ lw_tbl := tb_at 4 149 rfl
theorem cw_X3_gatherOne : Cond.code yX3_gatherOne cX3_gatherOne 4 (none) ∈ lw_tbl := tb_at 4 158 rfl
theorem cw_X4_init : Cond.code yX4_init cX4_init 1 (none) ∈ lw_tbl := tb_at 0 36 rfl
theorem cw_X4_take : Cond.code yX4_take cX4_take 3 (none) ∈ lw_tbl := tb_at 1 215 rfl
theorem cw_X4_giveFor : Cond.code yX4_giveFor cX4_giveFor 3 (some (.object "BellPulls$Told")) ∈ lw_tbl := tb_at 2 236 rfl
theorem cw_X4_begin : Cond.code yX4_begin cX4_begin 2 (none) ∈ lw_tbl := tb_at 1 223 rfl
theorem cw_X4_hasMore : Cond.code yX4_hasMore cX4_hasMore 1 (some .boolean) ∈ lw_tbl := tb_at 1 234 rfl
theorem cw_X4_refuse : Cond.code yX4_refuse cX4_refuse 2 (some .boolean) ∈ lw_tbl := tb_at 2 144 rfl
theorem cw_X4_at : Cond.code yX4_at cX4_at 2 (some .int) ∈ lw_tbl := tb_at 2 2 rfl
theorem cw_X4_isLetter : Cond.code yX4_isLetter cX4_isLetter 1 (some .boolean) ∈ lw_tbl := tb_at 2 5 rfl
theorem cw_X4_isDigit : Cond.code yX4_isDigit cX4_isDigit 1 (some .boolean) ∈ lw_tbl := tb_at 2 65 rfl
theorem cw_X4_next : Cond.code yX4_next cX4_next 1 (none) ∈ lw_tbl := tb_at 1 238 rfl
theorem cw_X4_nextWord : Cond.code yX4_nextWord cX4_nextWord 2 (none) ∈ lw_tbl := tb_at 2 9 rfl
theorem cw_X4_kindOfWord : Cond.code yX4_kindOfWord cX4_kindOfWord 5 (some .int) ∈ lw_tbl := tb_at 2 13 rfl
theorem cw_X4_nextNumber : Cond.code yX4_nextNumber cX4_nextNumber 1 (none) ∈ lw_tbl := tb_at 2 69 rfl
theorem cw_X4_nextSign : Cond.code yX4_nextSign cX4_nextSign 4 (none) ∈ lw_tbl := tb_at 2 74 rfl
theorem cw_X4_wants : Cond.code yX4_wants cX4_wants 2 (some .boolean) ∈ lw_tbl := tb_at 2 148 rfl
theorem cwA_0 : ∀ e ∈ mt_0, cwOk e := List.forall_mem_cons.mpr ⟨Or.inr cw_X0_init, List.forall_mem_cons.mpr ⟨Or.inr cw_X0_settle, List.forall_mem_cons.mpr ⟨Or.inr cw_X0_partsOf, List.forall_mem_cons.mpr ⟨Or.inr cw_X0_reduce, List.forall_mem_cons.mpr ⟨Or.inr cw_X1_init, List.forall_mem_cons.mpr ⟨Or.inr cw_X1_asDrawn, List.forall_mem_cons.mpr ⟨Or.inr cw_X1_asItGoes, List.forall_mem_cons.mpr ⟨Or.inr cw_X1_otherwise, List.forall_mem_cons.mpr ⟨Or.inr cw_X1_run, List.forall_mem_cons.mpr ⟨Or.inr cw_X1_rung, List.forall_mem_cons.mpr ⟨Or.inr cw_X1_age, List.forall_mem_cons.mpr ⟨Or.inr cw_X1_worth, List.forall_mem_cons.mpr ⟨Or.inr cw_X1_reckon, List.forall_mem_cons.mpr ⟨Or.inr cw_X1_joined, List.forall_mem_cons.mpr ⟨Or.inr cw_X1_asValue, List.forall_mem_cons.mpr ⟨Or.inr cw_X1_bounded, List.forall_mem_cons.mpr ⟨Or.inr cw_X1_product, List.forall_mem_cons.mpr ⟨Or.inr cw_X2_init, List.forall_mem_cons.mpr ⟨Or.inr cw_X2_begin, List.forall_mem_cons.mpr ⟨Or.inr cw_X2_become, List.forall_mem_cons.mpr ⟨Or.inr cw_X2_shownLamps, List.forall_mem_cons.mpr ⟨Or.inr cw_X2_freePulls, List.forall_mem_cons.mpr ⟨Or.inr cw_X2_pullsTiedTo, List.forall_mem_cons.mpr ⟨Or.inr cw_X2_howManyTies, List.forall_mem_cons.mpr ⟨Or.inr cw_X2_makeWhole, List.forall_mem_cons.mpr ⟨Or.inr cw_X2_draw, List.forall_mem_cons.mpr ⟨Or.inr cw_X3_init, List.forall_mem_cons.mpr ⟨Or.inr cw_X3_forget, List.forall_mem_cons.mpr ⟨Or.inr cw_X3_write, List.forall_mem_cons.mpr ⟨Or.inr cw_X3_writeStrike, List.forall_mem_cons.mpr ⟨Or.inr cw_X3_howManyKnown, List.forall_mem_cons.mpr ⟨Or.inr cw_X3_look, List.forall_mem_cons.mpr ⟨Or.inr cw_X3_isFitting, List.forall_mem_cons.mpr ⟨Or.inr cw_X3_gatherKnown, List.forall_mem_cons.mpr ⟨Or.inr cw_X3_gatherOne, List.forall_mem_cons.mpr ⟨Or.inr cw_X4_init, List.forall_mem_cons.mpr ⟨Or.inr cw_X4_take, List.forall_mem_cons.mpr ⟨Or.inr cw_X4_giveFor, List.forall_mem_cons.mpr ⟨Or.inr cw_X4_begin, List.forall_mem_cons.mpr ⟨Or.inr cw_X4_hasMore, List.forall_mem_cons.mpr ⟨Or.inr cw_X4_refuse, List.forall_mem_cons.mpr ⟨Or.inr cw_X4_at, List.forall_mem_cons.mpr ⟨Or.inr cw_X4_isLetter, List.forall_mem_cons.mpr ⟨Or.inr cw_X4_isDigit, List.forall_mem_cons.mpr ⟨Or.inr cw_X4_next, List.forall_mem_cons.mpr ⟨Or.inr cw_X4_nextWord, List.forall_mem_cons.mpr ⟨Or.inr cw_X4_kindOfWord, List.forall_mem_cons.mpr ⟨Or.inr cw_X4_nextNumber, List.forall_mem_cons.mpr ⟨Or.inr cw_X4_nextSign, List.forall_mem_cons.mpr ⟨Or.inr cw_X4_wants, fun _ h => absurd h List.not_mem_nil⟩⟩⟩⟩⟩⟩⟩⟩⟩⟩⟩⟩⟩⟩⟩⟩⟩⟩⟩⟩⟩⟩⟩⟩⟩⟩⟩⟩⟩⟩⟩⟩⟩⟩⟩⟩⟩⟩⟩⟩⟩⟩⟩⟩⟩⟩⟩⟩⟩⟩
theorem cw_X4_wantsNumber : Cond.code yX4_wantsNumber cX4_wantsNumber 2 (some .boolean) ∈ lw_tbl := tb_at 2 164 rfl
theorem cw_X4_readLine : Cond.code yX4_readLine cX4_readLine 2 (some .boolean) ∈ lw_tbl := tb_at 2 136 rfl
theorem cw_X4_readLamp : Cond.code yX4_readLamp cX4_readLamp 2 (some .boolean) ∈ lw_tbl := tb_at 2 140 rfl
theorem cw_X4_readPull : Cond.code yX4_readPull cX4_readPull 2 (some .boolean) ∈ lw_tbl := tb_at 2 156 rfl
theorem cw_X4_readTies : Cond.code yX4_readTies cX4_readTies 5 (some .boolean) ∈ lw_tbl := tb_at 2 168 rfl
theorem cw_X4_readLit : Cond.code yX4_readLit cX4_readLit 2 (some .boolean) ∈ lw_tbl := tb_at 2 172 rfl
theorem cw_X4_readRing : Cond.code yX4_readRing cX4_readRing 3 (some .boolean) ∈ lw_tbl := tb_at 2 176 rfl
theorem cw_X4_readMend : Cond.code yX4_readMend cX4_readMend 2 (some .boolean) ∈ lw_tbl := tb_at 2 180 rfl
theorem cw_X4_readBurn : Cond.code yX4_readBurn cX4_readBurn 1 (some .boolean) ∈ lw_tbl := tb_at 2 184 rfl
theorem cw_X4_readSeed : Cond.code yX4_readSeed cX4_readSeed 1 (some .boolean) ∈ lw_tbl := tb_at 2 188 rfl
theorem cw_X4_readLaw : Cond.code yX4_readLaw cX4_readLaw 2 (some .boolean) ∈ lw_tbl := tb_at 2 193 rfl
theorem cw_X4_readWorth : Cond.code yX4_readWorth cX4_readWorth 3 (some .boolean) ∈ lw_tbl := tb_at 2 201 rfl
theorem cw_X4_takeValue : Cond.code yX4_takeValue cX4_takeValue 1 (some .boolean) ∈ lw_tbl := tb_at 2 216 rfl
theorem cw_X4_takeSign : Cond.code yX4_takeSign cX4_takeSign 3 (some .boolean) ∈ lw_tbl := tb_at 2 232 rfl
theorem cw_X4_openOne : Cond.code yX4_openOne cX4_openOne 1 (some .boolean) ∈ lw_tbl := tb_at 2 220 rfl
theorem cw_X4_takeKnot : Cond.code yX4_takeKnot cX4_takeKnot 1 (some .boolean) ∈ lw_tbl := tb_at 2 228 rfl
theorem cw_X4_putOff : Cond.code yX4_putOff cX4_putOff 2 (some .boolean) ∈ lw_tbl := tb_at 2 224 rfl
theorem cw_X4_addStep : Cond.code yX4_addStep cX4_addStep 2 (some .boolean) ∈ lw_tbl := tb_at 2 212 rfl
theorem cw_X4_settle : Cond.code yX4_settle cX4_settle 2 (none) ∈ lw_tbl := tb_at 2 205 rfl
theorem cw_X4_bindingOf : Cond.code yX4_bindingOf cX4_bindingOf 1 (some .int) ∈ lw_tbl := tb_at 2 208 rfl
theorem cw_X5_init : Cond.code yX5_init cX5_init 1 (none) ∈ lw_tbl := tb_at 1 138 rfl
theorem cw_X5_gather : Cond.code yX5_gather cX5_gather 6 (none) ∈ lw_tbl := tb_at 3 198 rfl
theorem cw_X5_turnedBy : Cond.code yX5_turnedBy cX5_turnedBy 2 (some .int) ∈ lw_tbl := tb_at 4 56 rfl
theorem cw_X5_isWay : Cond.code yX5_isWay cX5_isWay 3 (some .boolean) ∈ lw_tbl := tb_at 3 206 rfl
theorem cw_X5_howMany : Cond.code yX5_howMany cX5_howMany 4 (some .int) ∈ lw_tbl := tb_at 3 202 rfl
theorem cw_X5_ofFewest : Cond.code yX5_ofFewest cX5_ofFewest 4 (some .int) ∈ lw_tbl := tb_at 3 214 rfl
theorem cw_X5_ofFewestSilent : Cond.code yX5_ofFewestSilent cX5_ofFewestSilent 3 (some .int) ∈ lw_tbl := tb_at 4 40 rfl
theorem cw_X5_ofLeastCost : Cond.code yX5_ofLeastCost cX5_ofLeastCost 7 (some .int) ∈ lw_tbl := tb_at 3 223 rfl
theorem cw_X5_inAll : Cond.code yX5_inAll cX5_inAll 4 (some .int) ∈ lw_tbl := tb_at 3 236 rfl
theorem cw_X5_inNone : Cond.code yX5_inNone cX5_inNone 4 (some .int) ∈ lw_tbl := tb_at 4 0 rfl
theorem cw_X5_ofDarkest : Cond.code yX5_ofDarkest cX5_ofDarkest 4 (some .int) ∈ lw_tbl := tb_at 4 48 rfl
theorem cw_X5_darkness : Cond.code yX5_darkness cX5_darkness 3 (some .int) ∈ lw_tbl := tb_at 4 52 rfl
theorem cw_X5_eveningsOf : Cond.code yX5_eveningsOf cX5_eveningsOf 6 (some .int) ∈ lw_tbl := tb_at 4 85 rfl
theorem cw_X5_play : Cond.code yX5_play cX5_play 3 (some .int) ∈ lw_tbl := tb_at 4 93 rfl
theorem cw_X5_bestFrom : Cond.code yX5_bestFrom cX5_bestFrom 6 (some .int) ∈ lw_tbl := tb_at 4 97 rfl
theorem cw_X5_outcomeBy : Cond.code yX5_outcomeBy cX5_outcomeBy 3 (some .int) ∈ lw_tbl := tb_at 4 101 rfl
theorem cw_X5_firstPullTo : Cond.code yX5_firstPullTo cX5_firstPullTo 5 (some .int) ∈ lw_tbl := tb_at 4 106 rfl
theorem cw_X6_init : Cond.code yX6_init cX6_init 1 (none) ∈ lw_tbl := tb_at 0 42 rfl
theorem cw_X6_empty : Cond.code yX6_empty cX6_empty 2 (none) ∈ lw_tbl := tb_at 1 230 rfl
theorem cw_X6_lampCalled : Cond.code yX6_lampCalled cX6_lampCalled 3 (some .int) ∈ lw_tbl := tb_at 2 152 rfl
theorem cw_X6_pullCalled : Cond.code yX6_pullCalled cX6_pullCalled 3 (some .int) ∈ lw_tbl := tb_at 2 160 rfl
theorem cw_X6_hasLaw : Cond.code yX6_hasLaw cX6_hasLaw 2 (some .boolean) ∈ lw_tbl := tb_at 2 197 rfl
theorem cw_X6_burnOdds : Cond.code yX6_burnOdds cX6_burnOdds 1 (some .int) ∈ lw_tbl := tb_at 3 151 rfl
theorem cw_X6_firstNumber : Cond.code yX6_firstNumber cX6_firstNumber 1 (some .int) ∈ lw_tbl := tb_at 3 4 rfl
theorem cw_X6_mendsIn : Cond.code yX6_mendsIn cX6_mendsIn 3 (some .boolean) ∈ lw_tbl := tb_at 3 141 rfl
theorem cw_X6_costOf : Cond.code yX6_costOf cX6_costOf 4 (some .int) ∈ lw_tbl := tb_at 3 227 rfl
theorem cw_X7_init : Cond.code yX7_init cX7_init 1 (none) ∈ lw_tbl := tb_at 1 50 rfl
theorem cw_X7_forget : Cond.code yX7_forget cX7_forget 1 (none) ∈ lw_tbl := tb_at 3 12 rfl
theorem cw_X7_remember : Cond.code yX7_remember cX7_remember 4 (none) ∈ lw_tbl := tb_at 3 93 rfl
theorem cw_X7_takeBack : Cond.code yX7_takeBack cX7_takeBack 3 (some .int) ∈ lw_tbl := tb_at 4 190 rfl
theorem cwA_1 : ∀ e ∈ mt_1, cwOk e := List.forall_mem_cons.mpr ⟨Or.inr cw_X4_wantsNumber, List.forall_mem_cons.mpr ⟨Or.inr cw_X4_readLine, List.forall_mem_cons.mpr ⟨Or.inr cw_X4_readLamp, List.forall_mem_cons.mpr ⟨Or.inr cw_X4_readPull, List.forall_mem_cons.mpr ⟨Or.inr cw_X4_readTies, List.forall_mem_cons.mpr ⟨Or.inr cw_X4_readLit, List.forall_mem_cons.mpr ⟨Or.inr cw_X4_readRing, List.forall_mem_cons.mpr ⟨Or.inr cw_X4_readMend, List.forall_mem_cons.mpr ⟨Or.inr cw_X4_readBurn, List.forall_mem_cons.mpr ⟨Or.inr cw_X4_readSeed, List.forall_mem_cons.mpr ⟨Or.inr cw_X4_readLaw, List.forall_mem_cons.mpr ⟨Or.inr cw_X4_readWorth, List.forall_mem_cons.mpr ⟨Or.inr cw_X4_takeValue, List.forall_mem_cons.mpr ⟨Or.inr cw_X4_takeSign, List.forall_mem_cons.mpr ⟨Or.inr cw_X4_openOne, List.forall_mem_cons.mpr ⟨Or.inr cw_X4_takeKnot, List.forall_mem_cons.mpr ⟨Or.inr cw_X4_putOff, List.forall_mem_cons.mpr ⟨Or.inr cw_X4_addStep, List.forall_mem_cons.mpr ⟨Or.inr cw_X4_settle, List.forall_mem_cons.mpr ⟨Or.inr cw_X4_bindingOf, List.forall_mem_cons.mpr ⟨Or.inr cw_X5_init, List.forall_mem_cons.mpr ⟨Or.inr cw_X5_gather, List.forall_mem_cons.mpr ⟨Or.inr cw_X5_turnedBy, List.forall_mem_cons.mpr ⟨Or.inr cw_X5_isWay, List.forall_mem_cons.mpr ⟨Or.inr cw_X5_howMany, List.forall_mem_cons.mpr ⟨Or.inr cw_X5_ofFewest, List.forall_mem_cons.mpr ⟨Or.inr cw_X5_ofFewestSilent, List.forall_mem_cons.mpr ⟨Or.inr cw_X5_ofLeastCost, List.forall_mem_cons.mpr ⟨Or.inr cw_X5_inAll, List.forall_mem_cons.mpr ⟨Or.inr cw_X5_inNone, List.forall_mem_cons.mpr ⟨Or.inr cw_X5_ofDarkest, List.forall_mem_cons.mpr ⟨Or.inr cw_X5_darkness, List.forall_mem_cons.mpr ⟨Or.inr cw_X5_eveningsOf, List.forall_mem_cons.mpr ⟨Or.inr cw_X5_play, List.forall_mem_cons.mpr ⟨Or.inr cw_X5_bestFrom, List.forall_mem_cons.mpr ⟨Or.inr cw_X5_outcomeBy, List.forall_mem_cons.mpr ⟨Or.inr cw_X5_firstPullTo, List.forall_mem_cons.mpr ⟨Or.inr cw_X6_init, List.forall_mem_cons.mpr ⟨Or.inr cw_X6_empty, List.forall_mem_cons.mpr ⟨Or.inr cw_X6_lampCalled, List.forall_mem_cons.mpr ⟨Or.inr cw_X6_pullCalled, List.forall_mem_cons.mpr ⟨Or.inr cw_X6_hasLaw, List.forall_mem_cons.mpr ⟨Or.inr cw_X6_burnOdds, List.forall_mem_cons.mpr ⟨Or.inr cw_X6_firstNumber, List.forall_mem_cons.mpr ⟨Or.inr cw_X6_mendsIn, List.forall_mem_cons.mpr ⟨Or.inr cw_X6_costOf, List.forall_mem_cons.mpr ⟨Or.inr cw_X7_init, List.forall_mem_cons.mpr ⟨Or.inr cw_X7_forget, List.forall_mem_cons.mpr ⟨Or.inr cw_X7_remember, List.forall_mem_cons.mpr ⟨Or.inr cw_X7_takeBack, fun _ h => absurd h List.not_mem_nil⟩⟩⟩⟩⟩⟩⟩⟩⟩⟩⟩⟩⟩⟩⟩⟩⟩⟩⟩⟩⟩⟩⟩⟩⟩⟩⟩⟩⟩⟩⟩⟩⟩⟩⟩⟩⟩⟩⟩⟩⟩⟩⟩⟩⟩⟩⟩⟩⟩⟩
theorem cw_X8_init : Cond.code yX8_init cX8_init 1 (none) ∈ lw_tbl := tb_at 0 28 rfl
theorem cw_X8_feed : Cond.code yX8_feed cX8_feed 6 (some .int) ∈ lw_tbl := tb_at 1 211 rfl
theorem cw_X8_text : Cond.code yX8_text cX8_text 3 (some .int) ∈ lw_tbl := tb_at 1 219 rfl
theorem cw_X8_fault : Cond.code yX8_fault cX8_fault 2 (some .int) ∈ lw_tbl := tb_at 3 16 rfl
theorem cw_X8_named : Cond.code yX8_named cX8_named 3 (some .int) ∈ lw_tbl := tb_at 3 20 rfl
theorem cw_X8_pull : Cond.code yX8_pull cX8_pull 3 (some .int) ∈ lw_tbl := tb_at 3 26 rfl
theorem cw_X8_evening : Cond.code yX8_evening cX8_evening 2 (some .int) ∈ lw_tbl := tb_at 3 34 rfl
theorem cw_X8_law : Cond.code yX8_law cX8_law 4 (some .long) ∈ lw_tbl := tb_at 3 42 rfl
theorem cw_X8_ring : Cond.code yX8_ring cX8_ring 2 (some .int) ∈ lw_tbl := tb_at 3 89 rfl
theorem cw_X8_tie : Cond.code yX8_tie cX8_tie 3 (some .int) ∈ lw_tbl := tb_at 3 121 rfl
theorem cw_X8_mend : Cond.code yX8_mend cX8_mend 1 (some .boolean) ∈ lw_tbl := tb_at 3 125 rfl
theorem cw_X8_go : Cond.code yX8_go cX8_go 2 (some .int) ∈ lw_tbl := tb_at 3 133 rfl
theorem cw_X8_ahead : Cond.code yX8_ahead cX8_ahead 3 (some .int) ∈ lw_tbl := tb_at 3 163 rfl
theorem cw_X8_dark : Cond.code yX8_dark cX8_dark 3 (some .int) ∈ lw_tbl := tb_at 3 178 rfl
theorem cw_X8_ways : Cond.code yX8_ways cX8_ways 2 (some .int) ∈ lw_tbl := tb_at 3 182 rfl
theorem cw_X8_fewest : Cond.code yX8_fewest cX8_fewest 2 (some .int) ∈ lw_tbl := tb_at 3 210 rfl
theorem cw_X8_cheapest : Cond.code yX8_cheapest cX8_cheapest 4 (some .int) ∈ lw_tbl := tb_at 3 219 rfl
theorem cw_X8_must : Cond.code yX8_must cX8_must 4 (some .int) ∈ lw_tbl := tb_at 3 232 rfl
theorem cw_X8_rank : Cond.code yX8_rank cX8_rank 1 (some .int) ∈ lw_tbl := tb_at 4 4 rfl
theorem cw_X8_basis : Cond.code yX8_basis cX8_basis 1 (some .int) ∈ lw_tbl := tb_at 4 24 rfl
theorem cw_X8_sumOf : Cond.code yX8_sumOf cX8_sumOf 3 (some .int) ∈ lw_tbl := tb_at 4 28 rfl
theorem cw_X8_silent : Cond.code yX8_silent cX8_silent 2 (some .int) ∈ lw_tbl := tb_at 4 36 rfl
theorem cw_X8_darkest : Cond.code yX8_darkest cX8_darkest 4 (some .int) ∈ lw_tbl := tb_at 4 44 rfl
theorem cw_X8_twins : Cond.code yX8_twins cX8_twins 6 (some .int) ∈ lw_tbl := tb_at 4 60 rfl
theorem cw_X8_fixed : Cond.code yX8_fixed cX8_fixed 4 (some .int) ∈ lw_tbl := tb_at 4 65 rfl
theorem cw_X8_knot : Cond.code yX8_knot cX8_knot 6 (some .int) ∈ lw_tbl := tb_at 4 69 rfl
theorem cw_X8_apart : Cond.code yX8_apart cX8_apart 4 (some .int) ∈ lw_tbl := tb_at 4 77 rfl
theorem cw_X8_evenings : Cond.code yX8_evenings cX8_evenings 2 (some .int) ∈ lw_tbl := tb_at 4 81 rfl
theorem cw_X8_game : Cond.code yX8_game cX8_game 4 (some .int) ∈ lw_tbl := tb_at 4 89 rfl
theorem cw_X8_holds : Cond.code yX8_holds cX8_holds 10 (some .long) ∈ lw_tbl := tb_at 4 110 rfl
theorem cw_X8_note : Cond.code yX8_note cX8_note 5 (some .int) ∈ lw_tbl := tb_at 4 116 rfl
theorem cw_X8_strike : Cond.code yX8_strike cX8_strike 2 (some .int) ∈ lw_tbl := tb_at 4 124 rfl
theorem cw_X8_known : Cond.code yX8_known cX8_known 2 (some .boolean) ∈ lw_tbl := tb_at 4 133 rfl
theorem cw_X8_fits : Cond.code yX8_fits cX8_fits 1 (some .int) ∈ lw_tbl := tb_at 4 137 rfl
theorem cw_X8_rang : Cond.code yX8_rang cX8_rang 2 (some .int) ∈ lw_tbl := tb_at 4 166 rfl
theorem cw_X8_ask : Cond.code yX8_ask cX8_ask 2 (some .int) ∈ lw_tbl := tb_at 4 170 rfl
theorem cw_X8_chance : Cond.code yX8_chance cX8_chance 7 (some .int) ∈ lw_tbl := tb_at 4 177 rfl
theorem cw_X8_tried : Cond.code yX8_tried cX8_tried 5 (some .int) ∈ lw_tbl := tb_at 4 181 rfl
theorem cw_X8_undo : Cond.code yX8_undo cX8_undo 1 (some .int) ∈ lw_tbl := tb_at 4 186 rfl
theorem cw_X8_keep : Cond.code yX8_keep cX8_keep 1 (some .int) ∈ lw_tbl := tb_at 4 194 rfl
theorem cw_X8_back : Cond.code yX8_back cX8_back 1 (some .int) ∈ lw_tbl := tb_at 4 198 rfl
theorem cw_X8_count : Cond.code yX8_count cX8_count 2 (some .int) ∈ lw_tbl := tb_at 4 202 rfl
theorem cw_X8_isLamp : Cond.code yX8_isLamp cX8_isLamp 2 (some .boolean) ∈ lw_tbl := tb_at 3 46 rfl
theorem cw_X8_isPull : Cond.code yX8_isPull cX8_isPull 2 (some .boolean) ∈ lw_tbl := tb_at 3 30 rfl
theorem cw_X8_areLamps : Cond.code yX8_areLamps cX8_areLamps 2 (some .boolean) ∈ lw_tbl := tb_at 3 186 rfl
theorem cw_X8_gatherFree : Cond.code yX8_gatherFree cX8_gatherFree 1 (none) ∈ lw_tbl := tb_at 3 190 rfl
theorem cw_X8_basisNow : Cond.code yX8_basisNow cX8_basisNow 1 (some .int) ∈ lw_tbl := tb_at 4 8 rfl
theorem cw_X8_lampThatOpens : Cond.code yX8_lampThatOpens cX8_lampThatOpens 5 (some .int) ∈ lw_tbl := tb_at 4 73 rfl
theorem cw_X8_lookAtNotes : Cond.code yX8_lookAtNotes cX8_lookAtNotes 1 (some .int) ∈ lw_tbl := tb_at 4 141 rfl
theorem cw_X9_init : Cond.code yX9_init cX9_init 1 (none) ∈ lw_tbl := tb_at 5 64 rfl
theorem cwA_2 : ∀ e ∈ mt_2, cwOk e := List.forall_mem_cons.mpr ⟨Or.inr cw_X8_init, List.forall_mem_cons.mpr ⟨Or.inr cw_X8_feed, List.forall_mem_cons.mpr ⟨Or.inr cw_X8_text, List.forall_mem_cons.mpr ⟨Or.inr cw_X8_fault, List.forall_mem_cons.mpr ⟨Or.inr cw_X8_named, List.forall_mem_cons.mpr ⟨Or.inr cw_X8_pull, List.forall_mem_cons.mpr ⟨Or.inr cw_X8_evening, List.forall_mem_cons.mpr ⟨Or.inr cw_X8_law, List.forall_mem_cons.mpr ⟨Or.inr cw_X8_ring, List.forall_mem_cons.mpr ⟨Or.inr cw_X8_tie, List.forall_mem_cons.mpr ⟨Or.inr cw_X8_mend, List.forall_mem_cons.mpr ⟨Or.inr cw_X8_go, List.forall_mem_cons.mpr ⟨Or.inr cw_X8_ahead, List.forall_mem_cons.mpr ⟨Or.inr cw_X8_dark, List.forall_mem_cons.mpr ⟨Or.inr cw_X8_ways, List.forall_mem_cons.mpr ⟨Or.inr cw_X8_fewest, List.forall_mem_cons.mpr ⟨Or.inr cw_X8_cheapest, List.forall_mem_cons.mpr ⟨Or.inr cw_X8_must, List.forall_mem_cons.mpr ⟨Or.inr cw_X8_rank, List.forall_mem_cons.mpr ⟨Or.inr cw_X8_basis, List.forall_mem_cons.mpr ⟨Or.inr cw_X8_sumOf, List.forall_mem_cons.mpr ⟨Or.inr cw_X8_silent, List.forall_mem_cons.mpr ⟨Or.inr cw_X8_darkest, List.forall_mem_cons.mpr ⟨Or.inr cw_X8_twins, List.forall_mem_cons.mpr ⟨Or.inr cw_X8_fixed, List.forall_mem_cons.mpr ⟨Or.inr cw_X8_knot, List.forall_mem_cons.mpr ⟨Or.inr cw_X8_apart, List.forall_mem_cons.mpr ⟨Or.inr cw_X8_evenings, List.forall_mem_cons.mpr ⟨Or.inr cw_X8_game, List.forall_mem_cons.mpr ⟨Or.inr cw_X8_holds, List.forall_mem_cons.mpr ⟨Or.inr cw_X8_note, List.forall_mem_cons.mpr ⟨Or.inr cw_X8_strike, List.forall_mem_cons.mpr ⟨Or.inr cw_X8_known, List.forall_mem_cons.mpr ⟨Or.inr cw_X8_fits, List.forall_mem_cons.mpr ⟨Or.inr cw_X8_rang, List.forall_mem_cons.mpr ⟨Or.inr cw_X8_ask, List.forall_mem_cons.mpr ⟨Or.inr cw_X8_chance, List.forall_mem_cons.mpr ⟨Or.inr cw_X8_tried, List.forall_mem_cons.mpr ⟨Or.inr cw_X8_undo, List.forall_mem_cons.mpr ⟨Or.inr cw_X8_keep, List.forall_mem_cons.mpr ⟨Or.inr cw_X8_back, List.forall_mem_cons.mpr ⟨Or.inr cw_X8_count, List.forall_mem_cons.mpr ⟨Or.inr cw_X8_isLamp, List.forall_mem_cons.mpr ⟨Or.inr cw_X8_isPull, List.forall_mem_cons.mpr ⟨Or.inr cw_X8_areLamps, List.forall_mem_cons.mpr ⟨Or.inr cw_X8_gatherFree, List.forall_mem_cons.mpr ⟨Or.inr cw_X8_basisNow, List.forall_mem_cons.mpr ⟨Or.inr cw_X8_lampThatOpens, List.forall_mem_cons.mpr ⟨Or.inr cw_X8_lookAtNotes, List.forall_mem_cons.mpr ⟨Or.inr cw_X9_init, fun _ h => absurd h List.not_mem_nil⟩⟩⟩⟩⟩⟩⟩⟩⟩⟩⟩⟩⟩⟩⟩⟩⟩⟩⟩⟩⟩⟩⟩⟩⟩⟩⟩⟩⟩⟩⟩⟩⟩⟩⟩⟩⟩⟩⟩⟩⟩⟩⟩⟩⟩⟩⟩⟩⟩⟩
theorem cw_X9_thrown : Cond.code yX9_thrown cX9_thrown 1 (some .int) ∈ lw_tbl := tb_at 6 87 rfl
theorem cw_X9_feed : Cond.code yX9_feed cX9_feed 8 (some .int) ∈ lw_tbl := tb_at 6 91 rfl
theorem cw_X9_isIn : Cond.code yX9_isIn cX9_isIn 3 (some .boolean) ∈ lw_tbl := tb_at 6 150 rfl
theorem cw_X9_isOf : Cond.code yX9_isOf cX9_isOf 2 (some .boolean) ∈ lw_tbl := tb_at 6 161 rfl
theorem cw_X9_wrong : Cond.code yX9_wrong cX9_wrong 2 (some .boolean) ∈ lw_tbl := tb_at 6 128 rfl
theorem cw_X9_wordAt : Cond.code yX9_wordAt cX9_wordAt 8 (some .int) ∈ lw_tbl := tb_at 6 107 rfl
theorem cw_X9_isSmall : Cond.code yX9_isSmall cX9_isSmall 2 (some .boolean) ∈ lw_tbl := tb_at 6 103 rfl
theorem cw_X9_isDigit : Cond.code yX9_isDigit cX9_isDigit 2 (some .boolean) ∈ lw_tbl := tb_at 6 115 rfl
theorem cw_X9_token : Cond.code yX9_token cX9_token 1 (none) ∈ lw_tbl := tb_at 6 99 rfl
theorem cw_X9_signToken : Cond.code yX9_signToken cX9_signToken 4 (none) ∈ lw_tbl := tb_at 6 120 rfl
theorem cw_X9_packed : Cond.code yX9_packed cX9_packed 5 (some .int) ∈ lw_tbl := tb_at 6 111 rfl
theorem cw_X9_isKey : Cond.code yX9_isKey cX9_isKey 2 (some .boolean) ∈ lw_tbl := tb_at 6 197 rfl
theorem cw_X9_isSign : Cond.code yX9_isSign cX9_isSign 2 (some .boolean) ∈ lw_tbl := tb_at 6 185 rfl
theorem cw_X9_number : Cond.code yX9_number cX9_number 3 (some .boolean) ∈ lw_tbl := tb_at 6 147 rfl
theorem cw_X9_plain : Cond.code yX9_plain cX9_plain 2 (none) ∈ lw_tbl := tb_at 5 69 rfl
theorem cw_X9_copies : Cond.code yX9_copies cX9_copies 3 (none) ∈ lw_tbl := tb_at 5 76 rfl
theorem cw_X9_keepText : Cond.code yX9_keepText cX9_keepText 2 (none) ∈ lw_tbl := tb_at 5 73 rfl
theorem cw_X9_find : Cond.code yX9_find cX9_find 5 (some .int) ∈ lw_tbl := tb_at 6 139 rfl
theorem cw_X9_newName : Cond.code yX9_newName cX9_newName 4 (some .boolean) ∈ lw_tbl := tb_at 6 136 rfl
theorem cw_X9_thereIn : Cond.code yX9_thereIn cX9_thereIn 5 (some .boolean) ∈ lw_tbl := tb_at 6 158 rfl
theorem cw_X9_lampLine : Cond.code yX9_lampLine cX9_lampLine 1 (some .boolean) ∈ lw_tbl := tb_at 6 132 rfl
theorem cw_X9_lampFor : Cond.code yX9_lampFor cX9_lampFor 3 (some .boolean) ∈ lw_tbl := tb_at 6 154 rfl
theorem cw_X9_pullLine : Cond.code yX9_pullLine cX9_pullLine 2 (some .boolean) ∈ lw_tbl := tb_at 6 143 rfl
theorem cw_X9_litLine : Cond.code yX9_litLine cX9_litLine 1 (some .boolean) ∈ lw_tbl := tb_at 6 165 rfl
theorem cw_X9_ringLine : Cond.code yX9_ringLine cX9_ringLine 2 (some .boolean) ∈ lw_tbl := tb_at 6 169 rfl
theorem cw_X9_mendLine : Cond.code yX9_mendLine cX9_mendLine 1 (some .boolean) ∈ lw_tbl := tb_at 6 173 rfl
theorem cw_X9_onceLine : Cond.code yX9_onceLine cX9_onceLine 3 (some .boolean) ∈ lw_tbl := tb_at 6 177 rfl
theorem cw_X9_lineRead : Cond.code yX9_lineRead cX9_lineRead 3 (some .boolean) ∈ lw_tbl := tb_at 6 124 rfl
theorem cw_X9_text : Cond.code yX9_text cX9_text 3 (some .int) ∈ lw_tbl := tb_at 6 95 rfl
theorem cw_X9_fault : Cond.code yX9_fault cX9_fault 2 (some .int) ∈ lw_tbl := tb_at 6 228 rfl
theorem cw_X9_named : Cond.code yX9_named cX9_named 3 (some .int) ∈ lw_tbl := tb_at 6 232 rfl
theorem cw_X9_standing : Cond.code yX9_standing cX9_standing 1 (some .int) ∈ lw_tbl := tb_at 6 220 rfl
theorem cw_X9_grown : Cond.code yX9_grown cX9_grown 4 (none) ∈ lw_tbl := tb_at 6 209 rfl
theorem cw_X9_dropHeld : Cond.code yX9_dropHeld cX9_dropHeld 1 (some .int) ∈ lw_tbl := tb_at 6 224 rfl
theorem cw_X9_bind : Cond.code yX9_bind cX9_bind 5 (none) ∈ lw_tbl := tb_at 6 217 rfl
theorem cw_X9_isCounted : Cond.code yX9_isCounted cX9_isCounted 1 (some .boolean) ∈ lw_tbl := tb_at 6 201 rfl
theorem cw_X9_waitsFor : Cond.code yX9_waitsFor cX9_waitsFor 2 (none) ∈ lw_tbl := tb_at 6 193 rfl
theorem cw_X9_nameMet : Cond.code yX9_nameMet cX9_nameMet 1 (some .int) ∈ lw_tbl := tb_at 6 205 rfl
theorem cw_X9_leafRead : Cond.code yX9_leafRead cX9_leafRead 2 (some .boolean) ∈ lw_tbl := tb_at 6 189 rfl
theorem cw_X9_signs : Cond.code yX9_signs cX9_signs 2 (some .boolean) ∈ lw_tbl := tb_at 6 213 rfl
theorem cw_X9_sumRead : Cond.code yX9_sumRead cX9_sumRead 1 (some .boolean) ∈ lw_tbl := tb_at 6 181 rfl
theorem cw_X9_bounded : Cond.code yX9_bounded cX9_bounded 3 (some .long) ∈ lw_tbl := tb_at 7 56 rfl
theorem cw_X9_compares : Cond.code yX9_compares cX9_compares 5 (some .boolean) ∈ lw_tbl := tb_at 7 65 rfl
theorem cw_X9_times : Cond.code yX9_times cX9_times 6 (some .long) ∈ lw_tbl := tb_at 7 62 rfl
theorem cw_X9_valueOf : Cond.code yX9_valueOf cX9_valueOf 6 (some .long) ∈ lw_tbl := tb_at 7 52 rfl
theorem cw_X9_begin : Cond.code yX9_begin cX9_begin 1 (none) ∈ lw_tbl := tb_at 5 80 rfl
theorem cw_X9_atFirst : Cond.code yX9_atFirst cX9_atFirst 3 (none) ∈ lw_tbl := tb_at 5 84 rfl
theorem cw_X9_plainTried : Cond.code yX9_plainTried cX9_plainTried 1 (none) ∈ lw_tbl := tb_at 5 88 rfl
theorem cw_X9_layTried : Cond.code yX9_layTried cX9_layTried 2 (none) ∈ lw_tbl := tb_at 7 121 rfl
theorem cw_X9_isLamp : Cond.code yX9_isLamp cX9_isLamp 2 (some .boolean) ∈ lw_tbl := tb_at 7 0 rfl
theorem cwA_3 : ∀ e ∈ mt_3, cwOk e := List.forall_mem_cons.mpr ⟨Or.inr cw_X9_thrown, List.forall_mem_cons.mpr ⟨Or.inr cw_X9_feed, List.forall_mem_cons.mpr ⟨Or.inr cw_X9_isIn, List.forall_mem_cons.mpr ⟨Or.inr cw_X9_isOf, List.forall_mem_cons.mpr ⟨Or.inr cw_X9_wrong, List.forall_mem_cons.mpr ⟨Or.inr cw_X9_wordAt, List.forall_mem_cons.mpr ⟨Or.inr cw_X9_isSmall, List.forall_mem_cons.mpr ⟨Or.inr cw_X9_isDigit, List.forall_mem_cons.mpr ⟨Or.inr cw_X9_token, List.forall_mem_cons.mpr ⟨Or.inr cw_X9_signToken, List.forall_mem_cons.mpr ⟨Or.inr cw_X9_packed, List.forall_mem_cons.mpr ⟨Or.inr cw_X9_isKey, List.forall_mem_cons.mpr ⟨Or.inr cw_X9_isSign, List.forall_mem_cons.mpr ⟨Or.inr cw_X9_number, List.forall_mem_cons.mpr ⟨Or.inr cw_X9_plain, List.forall_mem_cons.mpr ⟨Or.inr cw_X9_copies, List.forall_mem_cons.mpr ⟨Or.inr cw_X9_keepText, List.forall_mem_cons.mpr ⟨Or.inr cw_X9_find, List.forall_mem_cons.mpr ⟨Or.inr cw_X9_newName, List.forall_mem_cons.mpr ⟨Or.inr cw_X9_thereIn, List.forall_mem_cons.mpr ⟨Or.inr cw_X9_lampLine, List.forall_mem_cons.mpr ⟨Or.inr cw_X9_lampFor, List.forall_mem_cons.mpr ⟨Or.inr cw_X9_pullLine, List.forall_mem_cons.mpr ⟨Or.inr cw_X9_litLine, List.forall_mem_cons.mpr ⟨Or.inr cw_X9_ringLine, List.forall_mem_cons.mpr ⟨Or.inr cw_X9_mendLine, List.forall_mem_cons.mpr ⟨Or.inr cw_X9_onceLine, List.forall_mem_cons.mpr ⟨Or.inr cw_X9_lineRead, List.forall_mem_cons.mpr ⟨Or.inr cw_X9_text, List.forall_mem_cons.mpr ⟨Or.inr cw_X9_fault, List.forall_mem_cons.mpr ⟨Or.inr cw_X9_named, List.forall_mem_cons.mpr ⟨Or.inr cw_X9_standing, List.forall_mem_cons.mpr ⟨Or.inr cw_X9_grown, List.forall_mem_cons.mpr ⟨Or.inr cw_X9_dropHeld, List.forall_mem_cons.mpr ⟨Or.inr cw_X9_bind, List.forall_mem_cons.mpr ⟨Or.inr cw_X9_isCounted, List.forall_mem_cons.mpr ⟨Or.inr cw_X9_waitsFor, List.forall_mem_cons.mpr ⟨Or.inr cw_X9_nameMet, List.forall_mem_cons.mpr ⟨Or.inr cw_X9_leafRead, List.forall_mem_cons.mpr ⟨Or.inr cw_X9_signs, List.forall_mem_cons.mpr ⟨Or.inr cw_X9_sumRead, List.forall_mem_cons.mpr ⟨Or.inr cw_X9_bounded, List.forall_mem_cons.mpr ⟨Or.inr cw_X9_compares, List.forall_mem_cons.mpr ⟨Or.inr cw_X9_times, List.forall_mem_cons.mpr ⟨Or.inr cw_X9_valueOf, List.forall_mem_cons.mpr ⟨Or.inr cw_X9_begin, List.forall_mem_cons.mpr ⟨Or.inr cw_X9_atFirst, List.forall_mem_cons.mpr ⟨Or.inr cw_X9_plainTried, List.forall_mem_cons.mpr ⟨Or.inr cw_X9_layTried, List.forall_mem_cons.mpr ⟨Or.inr cw_X9_isLamp, fun _ h => absurd h List.not_mem_nil⟩⟩⟩⟩⟩⟩⟩⟩⟩⟩⟩⟩⟩⟩⟩⟩⟩⟩⟩⟩⟩⟩⟩⟩⟩⟩⟩⟩⟩⟩⟩⟩⟩⟩⟩⟩⟩⟩⟩⟩⟩⟩⟩⟩⟩⟩⟩⟩⟩⟩
theorem cw_X9_isPull : Cond.code yX9_isPull cX9_isPull 2 (some .boolean) ∈ lw_tbl := tb_at 7 16 rfl
theorem cw_X9_areLamps : Cond.code yX9_areLamps cX9_areLamps 2 (some .boolean) ∈ lw_tbl := tb_at 7 137 rfl
theorem cw_X9_manyOf : Cond.code yX9_manyOf cX9_manyOf 3 (some .int) ∈ lw_tbl := tb_at 7 40 rfl
theorem cw_X9_shown2 : Cond.code yX9_shown2 cX9_shown2 2 (some .int) ∈ lw_tbl := tb_at 7 24 rfl
theorem cw_X9_tiedTo : Cond.code yX9_tiedTo cX9_tiedTo 6 (some .int) ∈ lw_tbl := tb_at 7 8 rfl
theorem cw_X9_layAll : Cond.code yX9_layAll cX9_layAll 2 (none) ∈ lw_tbl := tb_at 7 37 rfl
theorem cw_X9_layPull : Cond.code yX9_layPull cX9_layPull 3 (none) ∈ lw_tbl := tb_at 7 44 rfl
theorem cw_X9_layLamp : Cond.code yX9_layLamp cX9_layLamp 3 (none) ∈ lw_tbl := tb_at 7 33 rfl
theorem cw_X9_lawOf : Cond.code yX9_lawOf cX9_lawOf 3 (some .long) ∈ lw_tbl := tb_at 7 48 rfl
theorem cw_X9_boundLaw : Cond.code yX9_boundLaw cX9_boundLaw 6 (some .int) ∈ lw_tbl := tb_at 7 85 rfl
theorem cw_X9_ringsOne : Cond.code yX9_ringsOne cX9_ringsOne 5 (none) ∈ lw_tbl := tb_at 7 81 rfl
theorem cw_X9_number1 : Cond.code yX9_number1 cX9_number1 2 (some .int) ∈ lw_tbl := tb_at 7 109 rfl
theorem cw_X9_isFate : Cond.code yX9_isFate cX9_isFate 4 (some .boolean) ∈ lw_tbl := tb_at 7 105 rfl
theorem cw_X9_minuteGoes : Cond.code yX9_minuteGoes cX9_minuteGoes 4 (none) ∈ lw_tbl := tb_at 7 101 rfl
theorem cw_X9_goMany : Cond.code yX9_goMany cX9_goMany 3 (none) ∈ lw_tbl := tb_at 7 125 rfl
theorem cw_X9_fails : Cond.code yX9_fails cX9_fails 2 (some .int) ∈ lw_tbl := tb_at 7 4 rfl
theorem cw_X9_lamp : Cond.code yX9_lamp cX9_lamp 3 (some .int) ∈ lw_tbl := tb_at 6 236 rfl
theorem cw_X9_pull : Cond.code yX9_pull cX9_pull 3 (some .int) ∈ lw_tbl := tb_at 7 12 rfl
theorem cw_X9_evening : Cond.code yX9_evening cX9_evening 2 (some .int) ∈ lw_tbl := tb_at 7 20 rfl
theorem cw_X9_law : Cond.code yX9_law cX9_law 5 (some .long) ∈ lw_tbl := tb_at 7 28 rfl
theorem cw_X9_ring : Cond.code yX9_ring cX9_ring 2 (some .int) ∈ lw_tbl := tb_at 7 69 rfl
theorem cw_X9_tie : Cond.code yX9_tie cX9_tie 3 (some .int) ∈ lw_tbl := tb_at 7 89 rfl
theorem cw_X9_mend : Cond.code yX9_mend cX9_mend 1 (some .boolean) ∈ lw_tbl := tb_at 7 93 rfl
theorem cw_X9_go : Cond.code yX9_go cX9_go 3 (some .int) ∈ lw_tbl := tb_at 7 97 rfl
theorem cw_X9_ahead : Cond.code yX9_ahead cX9_ahead 3 (some .int) ∈ lw_tbl := tb_at 7 117 rfl
theorem cw_X9_dark : Cond.code yX9_dark cX9_dark 3 (some .int) ∈ lw_tbl := tb_at 7 129 rfl
theorem cw_X9_layTurns : Cond.code yX9_layTurns cX9_layTurns 3 (none) ∈ lw_tbl := tb_at 7 141 rfl
theorem cw_X9_turnsTo : Cond.code yX9_turnsTo cX9_turnsTo 3 (some .boolean) ∈ lw_tbl := tb_at 7 145 rfl
theorem cw_X9_costOf : Cond.code yX9_costOf cX9_costOf 4 (some .int) ∈ lw_tbl := tb_at 7 161 rfl
theorem cw_X9_ways : Cond.code yX9_ways cX9_ways 4 (some .int) ∈ lw_tbl := tb_at 7 133 rfl
theorem cw_X9_fewestTo : Cond.code yX9_fewestTo cX9_fewestTo 4 (some .int) ∈ lw_tbl := tb_at 7 153 rfl
theorem cw_X9_fewest : Cond.code yX9_fewest cX9_fewest 2 (some .int) ∈ lw_tbl := tb_at 7 149 rfl
theorem cw_X9_cheapest : Cond.code yX9_cheapest cX9_cheapest 5 (some .int) ∈ lw_tbl := tb_at 7 157 rfl
theorem cw_X9_must : Cond.code yX9_must cX9_must 7 (some .int) ∈ lw_tbl := tb_at 7 165 rfl
theorem cw_X9_silentMany : Cond.code yX9_silentMany cX9_silentMany 3 (some .int) ∈ lw_tbl := tb_at 7 177 rfl
theorem cw_X9_rankNow : Cond.code yX9_rankNow cX9_rankNow 3 (some .int) ∈ lw_tbl := tb_at 7 173 rfl
theorem cw_X9_rank : Cond.code yX9_rank cX9_rank 1 (some .int) ∈ lw_tbl := tb_at 7 169 rfl
theorem cw_X9_isSum : Cond.code yX9_isSum cX9_isSum 4 (some .boolean) ∈ lw_tbl := tb_at 7 189 rfl
theorem cw_X9_basisNow : Cond.code yX9_basisNow cX9_basisNow 3 (some .int) ∈ lw_tbl := tb_at 7 185 rfl
theorem cw_X9_basis : Cond.code yX9_basis cX9_basis 1 (some .int) ∈ lw_tbl := tb_at 7 181 rfl
theorem cw_X9_sumOf : Cond.code yX9_sumOf cX9_sumOf 4 (some .int) ∈ lw_tbl := tb_at 7 193 rfl
theorem cw_X9_silent : Cond.code yX9_silent cX9_silent 4 (some .int) ∈ lw_tbl := tb_at 7 197 rfl
theorem cw_X9_darkest : Cond.code yX9_darkest cX9_darkest 5 (some .int) ∈ lw_tbl := tb_at 7 201 rfl
theorem cw_X9_twins : Cond.code yX9_twins cX9_twins 4 (some .int) ∈ lw_tbl := tb_at 7 205 rfl
theorem cw_X9_fixed : Cond.code yX9_fixed cX9_fixed 3 (some .int) ∈ lw_tbl := tb_at 7 209 rfl
theorem cw_X9_rankBy : Cond.code yX9_rankBy cX9_rankBy 5 (some .int) ∈ lw_tbl := tb_at 7 217 rfl
theorem cw_X9_knot : Cond.code yX9_knot cX9_knot 6 (some .int) ∈ lw_tbl := tb_at 7 213 rfl
theorem cw_X9_apart : Cond.code yX9_apart cX9_apart 4 (some .int) ∈ lw_tbl := tb_at 7 221 rfl
theorem cw_X9_evenings : Cond.code yX9_evenings cX9_evenings 4 (some .int) ∈ lw_tbl := tb_at 7 225 rfl
theorem cw_X9_worthBy : Cond.code yX9_worthBy cX9_worthBy 3 (some .int) ∈ lw_tbl := tb_at 7 237 rfl
theorem cwA_4 : ∀ e ∈ mt_4, cwOk e := List.forall_mem_cons.mpr ⟨Or.inr cw_X9_isPull, List.forall_mem_cons.mpr ⟨Or.inr cw_X9_areLamps, List.forall_mem_cons.mpr ⟨Or.inr cw_X9_manyOf, List.forall_mem_cons.mpr ⟨Or.inr cw_X9_shown2, List.forall_mem_cons.mpr ⟨Or.inr cw_X9_tiedTo, List.forall_mem_cons.mpr ⟨Or.inr cw_X9_layAll, List.forall_mem_cons.mpr ⟨Or.inr cw_X9_layPull, List.forall_mem_cons.mpr ⟨Or.inr cw_X9_layLamp, List.forall_mem_cons.mpr ⟨Or.inr cw_X9_lawOf, List.forall_mem_cons.mpr ⟨Or.inr cw_X9_boundLaw, List.forall_mem_cons.mpr ⟨Or.inr cw_X9_ringsOne, List.forall_mem_cons.mpr ⟨Or.inr cw_X9_number1, List.forall_mem_cons.mpr ⟨Or.inr cw_X9_isFate, List.forall_mem_cons.mpr ⟨Or.inr cw_X9_minuteGoes, List.forall_mem_cons.mpr ⟨Or.inr cw_X9_goMany, List.forall_mem_cons.mpr ⟨Or.inr cw_X9_fails, List.forall_mem_cons.mpr ⟨Or.inr cw_X9_lamp, List.forall_mem_cons.mpr ⟨Or.inr cw_X9_pull, List.forall_mem_cons.mpr ⟨Or.inr cw_X9_evening, List.forall_mem_cons.mpr ⟨Or.inr cw_X9_law, List.forall_mem_cons.mpr ⟨Or.inr cw_X9_ring, List.forall_mem_cons.mpr ⟨Or.inr cw_X9_tie, List.forall_mem_cons.mpr ⟨Or.inr cw_X9_mend, List.forall_mem_cons.mpr ⟨Or.inr cw_X9_go, List.forall_mem_cons.mpr ⟨Or.inr cw_X9_ahead, List.forall_mem_cons.mpr ⟨Or.inr cw_X9_dark, List.forall_mem_cons.mpr ⟨Or.inr cw_X9_layTurns, List.forall_mem_cons.mpr ⟨Or.inr cw_X9_turnsTo, List.forall_mem_cons.mpr ⟨Or.inr cw_X9_costOf, List.forall_mem_cons.mpr ⟨Or.inr cw_X9_ways, List.forall_mem_cons.mpr ⟨Or.inr cw_X9_fewestTo, List.forall_mem_cons.mpr ⟨Or.inr cw_X9_fewest, List.forall_mem_cons.mpr ⟨Or.inr cw_X9_cheapest, List.forall_mem_cons.mpr ⟨Or.inr cw_X9_must, List.forall_mem_cons.mpr ⟨Or.inr cw_X9_silentMany, List.forall_mem_cons.mpr ⟨Or.inr cw_X9_rankNow, List.forall_mem_cons.mpr ⟨Or.inr cw_X9_rank, List.forall_mem_cons.mpr ⟨Or.inr cw_X9_isSum, List.forall_mem_cons.mpr ⟨Or.inr cw_X9_basisNow, List.forall_mem_cons.mpr ⟨Or.inr cw_X9_basis, List.forall_mem_cons.mpr ⟨Or.inr cw_X9_sumOf, List.forall_mem_cons.mpr ⟨Or.inr cw_X9_silent, List.forall_mem_cons.mpr ⟨Or.inr cw_X9_darkest, List.forall_mem_cons.mpr ⟨Or.inr cw_X9_twins, List.forall_mem_cons.mpr ⟨Or.inr cw_X9_fixed, List.forall_mem_cons.mpr ⟨Or.inr cw_X9_rankBy, List.forall_mem_cons.mpr ⟨Or.inr cw_X9_knot, List.forall_mem_cons.mpr ⟨Or.inr cw_X9_apart, List.forall_mem_cons.mpr ⟨Or.inr cw_X9_evenings, List.forall_mem_cons.mpr ⟨Or.inr cw_X9_worthBy, fun _ h => absurd h List.not_mem_nil⟩⟩⟩⟩⟩⟩⟩⟩⟩⟩⟩⟩⟩⟩⟩⟩⟩⟩⟩⟩⟩⟩⟩⟩⟩⟩⟩⟩⟩⟩⟩⟩⟩⟩⟩⟩⟩⟩⟩⟩⟩⟩⟩⟩⟩⟩⟩⟩⟩⟩
theorem cw_X9_layWorth : Cond.code yX9_layWorth cX9_layWorth 5 (none) ∈ lw_tbl := tb_at 7 233 rfl
theorem cw_X9_game : Cond.code yX9_game cX9_game 3 (some .int) ∈ lw_tbl := tb_at 7 229 rfl
theorem cw_X9_holds : Cond.code yX9_holds cX9_holds 13 (some .long) ∈ lw_tbl := tb_at 8 1 rfl
theorem cw_X9_notes1 : Cond.code yX9_notes1 cX9_notes1 5 (some .int) ∈ lw_tbl := tb_at 8 11 rfl
theorem cw_X9_note : Cond.code yX9_note cX9_note 4 (some .int) ∈ lw_tbl := tb_at 8 7 rfl
theorem cw_X9_strike : Cond.code yX9_strike cX9_strike 2 (some .int) ∈ lw_tbl := tb_at 8 15 rfl
theorem cw_X9_known : Cond.code yX9_known cX9_known 2 (some .boolean) ∈ lw_tbl := tb_at 8 19 rfl
theorem cw_X9_knownBy : Cond.code yX9_knownBy cX9_knownBy 1 (some .int) ∈ lw_tbl := tb_at 8 31 rfl
theorem cw_X9_layCounts : Cond.code yX9_layCounts cX9_layCounts 2 (none) ∈ lw_tbl := tb_at 8 27 rfl
theorem cw_X9_eveningBy : Cond.code yX9_eveningBy cX9_eveningBy 4 (some .int) ∈ lw_tbl := tb_at 8 39 rfl
theorem cw_X9_isSo : Cond.code yX9_isSo cX9_isSo 5 (some .boolean) ∈ lw_tbl := tb_at 8 35 rfl
theorem cw_X9_fits : Cond.code yX9_fits cX9_fits 3 (some .int) ∈ lw_tbl := tb_at 8 23 rfl
theorem cw_X9_rang : Cond.code yX9_rang cX9_rang 5 (some .int) ∈ lw_tbl := tb_at 8 43 rfl
theorem cw_X9_ask : Cond.code yX9_ask cX9_ask 4 (some .int) ∈ lw_tbl := tb_at 8 47 rfl
theorem cw_X9_chance : Cond.code yX9_chance cX9_chance 8 (some .int) ∈ lw_tbl := tb_at 8 51 rfl
theorem cw_X9_tried : Cond.code yX9_tried cX9_tried 4 (some .int) ∈ lw_tbl := tb_at 8 55 rfl
theorem cw_X9_put : Cond.code yX9_put cX9_put 4 (none) ∈ lw_tbl := tb_at 7 77 rfl
theorem cw_X9_take : Cond.code yX9_take cX9_take 4 (none) ∈ lw_tbl := tb_at 8 63 rfl
theorem cw_X9_remember : Cond.code yX9_remember cX9_remember 2 (none) ∈ lw_tbl := tb_at 7 73 rfl
theorem cw_X9_undo : Cond.code yX9_undo cX9_undo 1 (some .int) ∈ lw_tbl := tb_at 8 59 rfl
theorem cw_X9_keep : Cond.code yX9_keep cX9_keep 2 (some .int) ∈ lw_tbl := tb_at 8 67 rfl
theorem cw_X9_back : Cond.code yX9_back cX9_back 2 (some .int) ∈ lw_tbl := tb_at 8 71 rfl
theorem cw_X9_count : Cond.code yX9_count cX9_count 4 (some .int) ∈ lw_tbl := tb_at 8 75 rfl
theorem cw_J6_numberOfLeadingZeros_0f7a4 : Cond.code yJ6_numberOfLeadingZeros_0f7a4 cJ6_numberOfLeadingZeros_0f7a4 2 (some .int) ∈ lw_tbl := tb_at 4 19 rfl
theorem cw_J6_numberOfTrailingZeros_0f7a4 : Cond.code yJ6_numberOfTrailingZeros_0f7a4 cJ6_numberOfTrailingZeros_0f7a4 2 (some .int) ∈ lw_tbl := tb_at 4 173 rfl
theorem cw_J6_bitCount_0f7a4 : Cond.code yJ6_bitCount_0f7a4 cJ6_bitCount_0f7a4 1 (some .int) ∈ lw_tbl := tb_at 3 57 rfl
theorem cw_J9_abs_067f4 : Cond.code yJ9_abs_067f4 cJ9_abs_067f4 2 (some .long) ∈ lw_tbl := tb_at 3 85 rfl
theorem cw_J9_max_7cf53 : Cond.code yJ9_max_7cf53 cJ9_max_7cf53 2 (some .int) ∈ lw_tbl := tb_at 2 93 rfl
theorem cw_J9_max_f86c9 : Cond.code yJ9_max_f86c9 cJ9_max_f86c9 4 (some .long) ∈ lw_tbl := tb_at 3 114 rfl
theorem cw_J9_min_7cf53 : Cond.code yJ9_min_7cf53 cJ9_min_7cf53 2 (some .int) ∈ lw_tbl := tb_at 1 226 rfl
theorem cw_J9_min_f86c9 : Cond.code yJ9_min_f86c9 cJ9_min_f86c9 4 (some .long) ∈ lw_tbl := tb_at 3 111 rfl
theorem cw_J0_length_8abf5 : Cond.code yJ0_length_8abf5 cJ0_length_8abf5 1 (some .int) ∈ lw_tbl := tb_at 2 18 rfl
theorem cw_J0_charAt_5068e : Cond.code yJ0_charAt_5068e cJ0_charAt_5068e 2 (some .char) ∈ lw_tbl := tb_at 2 28 rfl
theorem cw_J0_indexOf_0f7a4 : Cond.code yJ0_indexOf_0f7a4 cJ0_indexOf_0f7a4 2 (some .int) ∈ lw_tbl := tb_at 2 79 rfl
theorem cw_J0_indexOf_7cf53 : Cond.code yJ0_indexOf_7cf53 cJ0_indexOf_7cf53 3 (some .int) ∈ lw_tbl := tb_at 2 83 rfl
theorem cw_J0_coder_7d493 : Cond.code yJ0_coder_7d493 cJ0_coder_7d493 1 (some .byte) ∈ lw_tbl := tb_at 2 22 rfl
theorem cw_J0_isLatin1_aae02 : Cond.code yJ0_isLatin1_aae02 cJ0_isLatin1_aae02 1 (some .boolean) ∈ lw_tbl := tb_at 2 32 rfl
theorem cw_J0_checkIndex_df160 : Cond.code yJ0_checkIndex_df160 cJ0_checkIndex_df160 2 (none) ∈ lw_tbl := tb_at 2 38 rfl
theorem cw_J0_checkBoundsBeginEnd_23922 : Cond.code yJ0_checkBoundsBeginEnd_23922 cJ0_checkBoundsBeginEnd_23922 3 (none) ∈ lw_tbl := tb_at 2 112 rfl
theorem cw_J1_charAt_3b067 : Cond.code yJ1_charAt_3b067 cJ1_charAt_3b067 2 (some .char) ∈ lw_tbl := tb_at 2 35 rfl
theorem cw_J1_canEncode_9a6ad : Cond.code yJ1_canEncode_9a6ad cJ1_canEncode_9a6ad 1 (some .boolean) ∈ lw_tbl := tb_at 2 90 rfl
theorem cw_J1_indexOf_4cfef : Cond.code yJ1_indexOf_4cfef cJ1_indexOf_4cfef 4 (some .int) ∈ lw_tbl := tb_at 2 87 rfl
theorem cw_J1_indexOfChar_4cfef : Cond.code yJ1_indexOfChar_4cfef cJ1_indexOfChar_4cfef 6 (some .int) ∈ lw_tbl := tb_at 2 97 rfl
theorem cwA_5 : ∀ e ∈ mt_5, cwOk e := List.forall_mem_cons.mpr ⟨Or.inr cw_X9_layWorth, List.forall_mem_cons.mpr ⟨Or.inr cw_X9_game, List.forall_mem_cons.mpr ⟨Or.inr cw_X9_holds, List.forall_mem_cons.mpr ⟨Or.inr cw_X9_notes1, List.forall_mem_cons.mpr ⟨Or.inr cw_X9_note, List.forall_mem_cons.mpr ⟨Or.inr cw_X9_strike, List.forall_mem_cons.mpr ⟨Or.inr cw_X9_known, List.forall_mem_cons.mpr ⟨Or.inr cw_X9_knownBy, List.forall_mem_cons.mpr ⟨Or.inr cw_X9_layCounts, List.forall_mem_cons.mpr ⟨Or.inr cw_X9_eveningBy, List.forall_mem_cons.mpr ⟨Or.inr cw_X9_isSo, List.forall_mem_cons.mpr ⟨Or.inr cw_X9_fits, List.forall_mem_cons.mpr ⟨Or.inr cw_X9_rang, List.forall_mem_cons.mpr ⟨Or.inr cw_X9_ask, List.forall_mem_cons.mpr ⟨Or.inr cw_X9_chance, List.forall_mem_cons.mpr ⟨Or.inr cw_X9_tried, List.forall_mem_cons.mpr ⟨Or.inr cw_X9_put, List.forall_mem_cons.mpr ⟨Or.inr cw_X9_take, List.forall_mem_cons.mpr ⟨Or.inr cw_X9_remember, List.forall_mem_cons.mpr ⟨Or.inr cw_X9_undo, List.forall_mem_cons.mpr ⟨Or.inr cw_X9_keep, List.forall_mem_cons.mpr ⟨Or.inr cw_X9_back, List.forall_mem_cons.mpr ⟨Or.inr cw_X9_count, List.forall_mem_cons.mpr ⟨Or.inl rfl, List.forall_mem_cons.mpr ⟨Or.inr cw_J6_numberOfLeadingZeros_0f7a4, List.forall_mem_cons.mpr ⟨Or.inr cw_J6_numberOfTrailingZeros_0f7a4, List.forall_mem_cons.mpr ⟨Or.inr cw_J6_bitCount_0f7a4, List.forall_mem_cons.mpr ⟨Or.inr cw_J9_abs_067f4, List.forall_mem_cons.mpr ⟨Or.inr cw_J9_max_7cf53, List.forall_mem_cons.mpr ⟨Or.inr cw_J9_max_f86c9, List.forall_mem_cons.mpr ⟨Or.inr cw_J9_min_7cf53, List.forall_mem_cons.mpr ⟨Or.inr cw_J9_min_f86c9, List.forall_mem_cons.mpr ⟨Or.inr cw_J0_length_8abf5, List.forall_mem_cons.mpr ⟨Or.inr cw_J0_charAt_5068e, List.forall_mem_cons.mpr ⟨Or.inr cw_J0_indexOf_0f7a4, List.forall_mem_cons.mpr ⟨Or.inr cw_J0_indexOf_7cf53, List.forall_mem_cons.mpr ⟨Or.inr cw_J0_coder_7d493, List.forall_mem_cons.mpr ⟨Or.inr cw_J0_isLatin1_aae02, List.forall_mem_cons.mpr ⟨Or.inr cw_J0_checkIndex_df160, List.forall_mem_cons.mpr ⟨Or.inr cw_J0_checkBoundsBeginEnd_23922, List.forall_mem_cons.mpr ⟨Or.inr cw_J1_charAt_3b067, List.forall_mem_cons.mpr ⟨Or.inr cw_J1_canEncode_9a6ad, List.forall_mem_cons.mpr ⟨Or.inr cw_J1_indexOf_4cfef, List.forall_mem_cons.mpr ⟨Or.inr cw_J1_indexOfChar_4cfef, fun _ h => absurd h List.not_mem_nil⟩⟩⟩⟩⟩⟩⟩⟩⟩⟩⟩⟩⟩⟩⟩⟩⟩⟩⟩⟩⟩⟩⟩⟩⟩⟩⟩⟩⟩⟩⟩⟩⟩⟩⟩⟩⟩⟩⟩⟩⟩⟩⟩⟩
theorem cw_X8_lamp : Cond.code yX8_lamp cX8_lamp 3 (some .int) ∈ lw_tbl := tb_at 4 217 rfl
theorem cwA_6 : ∀ e ∈ mt_6, cwOk e := List.forall_mem_cons.mpr ⟨Or.inr cw_X8_lamp, fun _ h => absurd h List.not_mem_nil⟩
theorem cw_all {M : Nat} {e : mRow} (h : mrow M = some e) : cwOk e := by
  unfold mrow at h
  split at h
  next l hl =>
    have hm := List.mem_of_getElem? h
    have hl' := List.mem_of_getElem? hl
    simp only [mtab, List.mem_cons, List.not_mem_nil, or_false] at hl'
    rcases hl' with rfl | rfl | rfl | rfl | rfl | rfl | rfl
    · exact cwA_0 e hm
    · exact cwA_1 e hm
    · exact cwA_2 e hm
    · exact cwA_3 e hm
    · exact cwA_4 e hm
    · exact cwA_5 e hm
    · exact cwA_6 e hm
  next => cases h
