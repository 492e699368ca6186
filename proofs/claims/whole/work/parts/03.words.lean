/-! WORDS: every method takes one list whole behind its own code, all good words of the tables (wsU); a word by its place. -/
def wsU : List Cond := lw_tbl.filter goodWord
theorem gu_all : ∀ w ∈ wsU, goodWord w = true := fun _ h => (List.mem_filter.mp h).2
theorem wsU_in : ∀ w ∈ wsU, w ∈ lw_tbl := fun _ h => (List.mem_filter.mp h).1
theorem wl_s {w : Cond} (i : Nat) (h : (k2_sels lw_privs)[i]? = some w) : w ∈ lw_tbl := List.mem_append_left _ (List.mem_of_getElem? h)
theorem wl_1 {w : Cond} (i : Nat) (h : tables_1_1[i]? = some w) : w ∈ lw_tbl := List.mem_append_right _ ((List.mem_append_left _ (List.mem_of_getElem? h)))
theorem wl_2 {w : Cond} (i : Nat) (h : tables_1_2[i]? = some w) : w ∈ lw_tbl := List.mem_append_right _ (List.mem_append_right _ ((List.mem_append_left _ (List.mem_of_getElem? h))))
theorem wl_3 {w : Cond} (i : Nat) (h : tables_1_3[i]? = some w) : w ∈ lw_tbl := List.mem_append_right _ (List.mem_append_right _ (List.mem_append_right _ ((List.mem_append_left _ (List.mem_of_getElem? h)))))
theorem wl_4 {w : Cond} (i : Nat) (h : tables_1_4[i]? = some w) : w ∈ lw_tbl := List.mem_append_right _ (List.mem_append_right _ (List.mem_append_right _ (List.mem_append_right _ ((List.mem_append_left _ (List.mem_of_getElem? h))))))
theorem wl_5 {w : Cond} (i : Nat) (h : tables_1_5[i]? = some w) : w ∈ lw_tbl := List.mem_append_right _ (List.mem_append_right _ (List.mem_append_right _ (List.mem_append_right _ (List.mem_append_right _ ((List.mem_append_left _ (List.mem_of_getElem? h)))))))
theorem wl_6 {w : Cond} (i : Nat) (h : tables_1_6[i]? = some w) : w ∈ lw_tbl := List.mem_append_right _ (List.mem_append_right _ (List.mem_append_right _ (List.mem_append_right _ (List.mem_append_right _ (List.mem_append_right _ ((List.mem_of_getElem? h)))))))
theorem pt_s {w : Cond} (i : Nat) (h : (k2_sels lw_privs)[i]? = some w) (hg : goodWord w = true) : w ∈ wsU := List.mem_filter.mpr ⟨wl_s i h, hg⟩
theorem pt_1 {w : Cond} (i : Nat) (h : tables_1_1[i]? = some w) (hg : goodWord w = true) : w ∈ wsU := List.mem_filter.mpr ⟨wl_1 i h, hg⟩
theorem pt_2 {w : Cond} (i : Nat) (h : tables_1_2[i]? = some w) (hg : goodWord w = true) : w ∈ wsU := List.mem_filter.mpr ⟨wl_2 i h, hg⟩
theorem pt_3 {w : Cond} (i : Nat) (h : tables_1_3[i]? = some w) (hg : goodWord w = true) : w ∈ wsU := List.mem_filter.mpr ⟨wl_3 i h, hg⟩
theorem pt_4 {w : Cond} (i : Nat) (h : tables_1_4[i]? = some w) (hg : goodWord w = true) : w ∈ wsU := List.mem_filter.mpr ⟨wl_4 i h, hg⟩
theorem pt_5 {w : Cond} (i : Nat) (h : tables_1_5[i]? = some w) (hg : goodWord w = true) : w ∈ wsU := List.mem_filter.mpr ⟨wl_5 i h, hg⟩
theorem pt_6 {w : Cond} (i : Nat) (h : tables_1_6[i]? = some w) (hg : goodWord w = true) : w ∈ wsU := List.mem_filter.mpr ⟨wl_6 i h, hg⟩
theorem pu_X0 : ∀ u ∈ wsX00, u ∈ wsU := by
  show ∀ u ∈ [u_lay RX0 TX0 0, u_lay RX0 TX0 1, u_lay RX0 TX0 2, u_lay RX0 TX0 3, u_lay RX0 TX0 4, u_lay RX0 TX0 5], u ∈ wsU
  exact List.forall_mem_cons.mpr ⟨(pt_1 104 rfl rfl), List.forall_mem_cons.mpr ⟨(pt_1 106 rfl rfl), List.forall_mem_cons.mpr ⟨(pt_1 108 rfl rfl), List.forall_mem_cons.mpr ⟨(pt_1 110 rfl rfl), List.forall_mem_cons.mpr ⟨(pt_1 112 rfl rfl), List.forall_mem_cons.mpr ⟨(pt_1 114 rfl rfl), fun _ h => absurd h List.not_mem_nil⟩⟩⟩⟩⟩⟩
theorem pu_X1 : ∀ u ∈ wsX10, u ∈ wsU := by
  show ∀ u ∈ [u_lay RX1 TX1 0, u_lay RX1 TX1 1, u_lay RX1 TX1 2, u_lay RX1 TX1 3], u ∈ wsU
  exact List.forall_mem_cons.mpr ⟨(pt_1 164 rfl rfl), List.forall_mem_cons.mpr ⟨(pt_1 166 rfl rfl), List.forall_mem_cons.mpr ⟨(pt_1 168 rfl rfl), List.forall_mem_cons.mpr ⟨(pt_1 170 rfl rfl), fun _ h => absurd h List.not_mem_nil⟩⟩⟩⟩
theorem pu_X2 : ∀ u ∈ wsX20, u ∈ wsU := by
  show ∀ u ∈ [u_lay RX2 TX2 0, u_lay RX2 TX2 1], u ∈ wsU
  exact List.forall_mem_cons.mpr ⟨(pt_1 148 rfl rfl), List.forall_mem_cons.mpr ⟨(pt_1 150 rfl rfl), fun _ h => absurd h List.not_mem_nil⟩⟩
theorem pu_X3 : ∀ u ∈ wsX30, u ∈ wsU := by
  show ∀ u ∈ [u_lay RX3 TX3 0, u_lay RX3 TX3 1, u_lay RX3 TX3 2, u_lay RX3 TX3 3], u ∈ wsU
  exact List.forall_mem_cons.mpr ⟨(pt_1 130 rfl rfl), List.forall_mem_cons.mpr ⟨(pt_1 132 rfl rfl), List.forall_mem_cons.mpr ⟨(pt_1 134 rfl rfl), List.forall_mem_cons.mpr ⟨(pt_1 136 rfl rfl), fun _ h => absurd h List.not_mem_nil⟩⟩⟩⟩
theorem pu_X4 : ∀ u ∈ wsX40, u ∈ wsU := by
  show ∀ u ∈ [u_lay RX4 TX4 0, u_lay RX4 TX4 1, u_lay RX4 TX4 2], u ∈ wsU
  exact List.forall_mem_cons.mpr ⟨(pt_1 77 rfl rfl), List.forall_mem_cons.mpr ⟨(pt_1 79 rfl rfl), List.forall_mem_cons.mpr ⟨(pt_1 81 rfl rfl), fun _ h => absurd h List.not_mem_nil⟩⟩⟩
theorem pu_X5 : ∀ u ∈ wsX50, u ∈ wsU := by
  show ∀ u ∈ [u_lay RX5 TX5 0, u_lay RX5 TX5 1, u_lay RX5 TX5 2, u_lay RX5 TX5 3, u_lay RX5 TX5 4, u_lay RX5 TX5 5], u ∈ wsU
  exact List.forall_mem_cons.mpr ⟨(pt_1 51 rfl rfl), List.forall_mem_cons.mpr ⟨(pt_1 53 rfl rfl), List.forall_mem_cons.mpr ⟨(pt_1 55 rfl rfl), List.forall_mem_cons.mpr ⟨(pt_1 57 rfl rfl), List.forall_mem_cons.mpr ⟨(pt_1 59 rfl rfl), List.forall_mem_cons.mpr ⟨(pt_1 61 rfl rfl), fun _ h => absurd h List.not_mem_nil⟩⟩⟩⟩⟩⟩
theorem pu_X6 : ∀ u ∈ wsX60, u ∈ wsU := by
  show ∀ u ∈ [u_lay RX6 TX6 0, u_lay RX6 TX6 1, u_lay RX6 TX6 2, u_lay RX6 TX6 3, u_lay RX6 TX6 4, u_lay RX6 TX6 5, u_lay RX6 TX6 6, u_lay RX6 TX6 7], u ∈ wsU
  exact List.forall_mem_cons.mpr ⟨(pt_1 181 rfl rfl), List.forall_mem_cons.mpr ⟨(pt_1 183 rfl rfl), List.forall_mem_cons.mpr ⟨(pt_1 185 rfl rfl), List.forall_mem_cons.mpr ⟨(pt_1 187 rfl rfl), List.forall_mem_cons.mpr ⟨(pt_1 189 rfl rfl), List.forall_mem_cons.mpr ⟨(pt_1 191 rfl rfl), List.forall_mem_cons.mpr ⟨(pt_1 193 rfl rfl), List.forall_mem_cons.mpr ⟨(pt_1 195 rfl rfl), fun _ h => absurd h List.not_mem_nil⟩⟩⟩⟩⟩⟩⟩⟩
theorem pu_X7 : ∀ u ∈ wsX70, u ∈ wsU := by
  show ∀ u ∈ [u_lay RX7 TX7 0, u_lay RX7 TX7 1, u_lay RX7 TX7 2, u_lay RX7 TX7 3, u_lay RX7 TX7 4, u_lay RX7 TX7 5, u_lay RX7 TX7 6, u_lay RX7 TX7 7, u_lay RX7 TX7 8, u_lay RX7 TX7 9, u_lay RX7 TX7 10, u_lay RX7 TX7 11, u_lay RX7 TX7 12, u_lay RX7 TX7 13, u_lay RX7 TX7 14, u_lay RX7 TX7 15, u_lay RX7 TX7 16, u_lay RX7 TX7 17, u_lay RX7 TX7 18, u_lay RX7 TX7 19, u_lay RX7 TX7 20, u_lay RX7 TX7 21, u_lay RX7 TX7 22, u_lay RX7 TX7 23, u_lay RX7 TX7 24, u_lay RX7 TX7 25, u_lay RX7 TX7 26], u ∈ wsU
  exact List.forall_mem_cons.mpr ⟨(pt_5 32 rfl rfl), List.forall_mem_cons.mpr ⟨(pt_5 34 rfl rfl), List.forall_mem_cons.mpr ⟨(pt_5 36 rfl rfl), List.forall_mem_cons.mpr ⟨(pt_5 38 rfl rfl), List.forall_mem_cons.mpr ⟨(pt_5 40 rfl rfl), List.forall_mem_cons.mpr ⟨(pt_5 42 rfl rfl), List.forall_mem_cons.mpr ⟨(pt_5 44 rfl rfl), List.forall_mem_cons.mpr ⟨(pt_5 46 rfl rfl), List.forall_mem_cons.mpr ⟨(pt_5 48 rfl rfl), List.forall_mem_cons.mpr ⟨(pt_5 50 rfl rfl), List.forall_mem_cons.mpr ⟨(pt_5 52 rfl rfl), List.forall_mem_cons.mpr ⟨(pt_5 54 rfl rfl), List.forall_mem_cons.mpr ⟨(pt_5 56 rfl rfl), List.forall_mem_cons.mpr ⟨(pt_5 58 rfl rfl), List.forall_mem_cons.mpr ⟨(pt_5 60 rfl rfl), List.forall_mem_cons.mpr ⟨(pt_5 62 rfl rfl), List.forall_mem_cons.mpr ⟨(pt_5 64 rfl rfl), List.forall_mem_cons.mpr ⟨(pt_5 66 rfl rfl), List.forall_mem_cons.mpr ⟨(pt_5 68 rfl rfl), List.forall_mem_cons.mpr ⟨(pt_5 70 rfl rfl), List.forall_mem_cons.mpr ⟨(pt_5 72 rfl rfl), List.forall_mem_cons.mpr ⟨(pt_5 74 rfl rfl), List.forall_mem_cons.mpr ⟨(pt_5 76 rfl rfl), List.forall_mem_cons.mpr ⟨(pt_5 78 rfl rfl), List.forall_mem_cons.mpr ⟨(pt_5 80 rfl rfl), List.forall_mem_cons.mpr ⟨(pt_5 82 rfl rfl), List.forall_mem_cons.mpr ⟨(pt_5 84 rfl rfl), fun _ h => absurd h List.not_mem_nil⟩⟩⟩⟩⟩⟩⟩⟩⟩⟩⟩⟩⟩⟩⟩⟩⟩⟩⟩⟩⟩⟩⟩⟩⟩⟩⟩
theorem gu_w {w : Cond} (h : w ∈ wsU) {c0 : Cond} : w ∈ c0 :: wsU ∧ ((w.onTables && w.keeps) = true ∨ ∃ ty, w = .arrayClass ty) := ⟨List.mem_cons_of_mem _ h, good_of_word (gu_all w h)⟩
theorem gu_N {c0 code : Cond} (h5 : code ∈ wsU) : GoodIn (c0 :: wsU) (code :: wsU) := fun w h => (List.mem_cons.mp h).elim (fun e => by rw [e]; exact gu_w h5) (fun h => gu_w h)
theorem gu_V {c0 code : Cond} {own C : String} {idx : Nat} {y' : MethodName} (h1 : Cond.methodLink own idx y' ∈ wsU) (h2 : Cond.instanceMethod y' ∈ wsU) (h3 : Cond.selects C y' y' ∈ wsU) (h4 : Cond.initialized C ∈ wsU) (h5 : code ∈ wsU) : GoodIn (c0 :: wsU) (wsV own idx C y' (code :: wsU)) := fun w h => by
  rcases List.mem_append.mp h with h | h
  · simp only [List.mem_cons, List.not_mem_nil, or_false] at h
    rcases h with rfl | rfl | rfl | rfl
    · exact gu_w h1
    · exact gu_w h2
    · exact gu_w h3
    · exact gu_w h4
  · exact gu_N h5 w h
theorem gu_S {c0 code : Cond} {own : String} {idx : Nat} {y' : MethodName} (h1 : Cond.methodLink own idx y' ∈ wsU) (h2 : Cond.static y' ∈ wsU) (h4 : Cond.initialized y'.cls ∈ wsU) (h5 : code ∈ wsU) : GoodIn (c0 :: wsU) (va_wsS own idx y' (code :: wsU)) := fun w h => by
  rcases List.mem_append.mp h with h | h
  · simp only [List.mem_cons, List.not_mem_nil, or_false] at h
    rcases h with rfl | rfl | rfl
    · exact gu_w h1
    · exact gu_w h2
    · exact gu_w h4
  · exact gu_N h5 w h
abbrev wsX0_init : List Cond := .code yX0_init cX0_init 1 none :: wsU
abbrev wsX0_add : List Cond := .code yX0_add cX0_add 5 (some .int) :: wsU
abbrev wsX0_isOpen : List Cond := .code yX0_isOpen cX0_isOpen 2 (some .boolean) :: wsU
abbrev wsX0_covers : List Cond := .code yX0_covers cX0_covers 3 (some .boolean) :: wsU
abbrev wsX0_anyOf : List Cond := .code yX0_anyOf cX0_anyOf 3 (some .boolean) :: wsU
abbrev wsX0_countOpen : List Cond := .code yX0_countOpen cX0_countOpen 3 (some .int) :: wsU
abbrev wsX0_mostUrgent : List Cond := .code yX0_mostUrgent cX0_mostUrgent 3 (some .int) :: wsU
abbrev wsX0_isMoreUrgent : List Cond := .code yX0_isMoreUrgent cX0_isMoreUrgent 3 (some .boolean) :: wsU
abbrev wsX0_countCases : List Cond := .code yX0_countCases cX0_countCases 3 (some .int) :: wsU
abbrev wsX0_merge : List Cond := .code yX0_merge cX0_merge 5 (some .int) :: wsU
abbrev wsX0_nextChange : List Cond := .code yX0_nextChange cX0_nextChange 5 (some .int) :: wsU
abbrev wsX0_coveredMinutes : List Cond := .code yX0_coveredMinutes cX0_coveredMinutes 7 (some .int) :: wsU
abbrev wsX0_caseCovers : List Cond := .code yX0_caseCovers cX0_caseCovers 4 (some .boolean) :: wsU
abbrev wsX1_init : List Cond := .code yX1_init cX1_init 1 none :: wsU
abbrev wsX1_find : List Cond := .code yX1_find cX1_find 6 none :: wsU
abbrev wsX1_clear : List Cond := .code yX1_clear cX1_clear 1 none :: wsU
abbrev wsX1_passUp : List Cond := .code yX1_passUp cX1_passUp 4 none :: wsU
abbrev wsX1_meanLoss : List Cond := .code yX1_meanLoss cX1_meanLoss 2 (some .int) :: wsU
abbrev wsX1_worstLeaf : List Cond := .code yX1_worstLeaf cX1_worstLeaf 6 (some .int) :: wsU
abbrev wsX2_init : List Cond := .code yX2_init cX2_init 1 none :: wsU
abbrev wsX2_add : List Cond := .code yX2_add cX2_add 6 none :: wsU
abbrev wsX2_fact : List Cond := .code yX2_fact cX2_fact 3 (some .int) :: wsU
abbrev wsX2_countTo : List Cond := .code yX2_countTo cX2_countTo 4 (some .int) :: wsU
abbrev wsX3_init : List Cond := .code yX3_init cX3_init 1 none :: wsU
abbrev wsX3_add : List Cond := .code yX3_add cX3_add 5 (some .int) :: wsU
abbrev wsX3_excuses : List Cond := .code yX3_excuses cX3_excuses 4 (some .boolean) :: wsU
abbrev wsX3_nextChange : List Cond := .code yX3_nextChange cX3_nextChange 5 (some .int) :: wsU
abbrev wsX3_excusedMinutes : List Cond := .code yX3_excusedMinutes cX3_excusedMinutes 8 (some .int) :: wsU
abbrev wsX4_init : List Cond := .code yX4_init cX4_init 1 none :: wsU
abbrev wsX4_add : List Cond := .code yX4_add cX4_add 3 (some .int) :: wsU
abbrev wsX4_follows : List Cond := .code yX4_follows cX4_follows 3 (some .boolean) :: wsU
abbrev wsX4_toggle : List Cond := .code yX4_toggle cX4_toggle 3 none :: wsU
abbrev wsX4_count : List Cond := .code yX4_count cX4_count 2 (some .int) :: wsU
abbrev wsX5_init : List Cond := .code yX5_init cX5_init 1 none :: wsU
abbrev wsX5_add : List Cond := .code yX5_add cX5_add 7 (some .int) :: wsU
abbrev wsX5_holds : List Cond := .code yX5_holds cX5_holds 2 (some .boolean) :: wsU
abbrev wsX5_countAbove : List Cond := .code yX5_countAbove cX5_countAbove 2 (some .int) :: wsU
abbrev wsX5_countWithin : List Cond := .code yX5_countWithin cX5_countWithin 2 (some .int) :: wsU
abbrev wsX5_hasChildren : List Cond := .code yX5_hasChildren cX5_hasChildren 2 (some .boolean) :: wsU
abbrev wsX5_countLeaves : List Cond := .code yX5_countLeaves cX5_countLeaves 4 (some .int) :: wsU
abbrev wsX5_withinAt : List Cond := .code yX5_withinAt cX5_withinAt 7 (some .int) :: wsU
abbrev wsX5_onPath : List Cond := .code yX5_onPath cX5_onPath 5 (some .int) :: wsU
abbrev wsX6_init : List Cond := .code yX6_init cX6_init 1 none :: wsU
abbrev wsX6_addComponent : List Cond := .code yX6_addComponent cX6_addComponent 4 (some .int) :: wsU
abbrev wsX6_setWeight : List Cond := .code yX6_setWeight cX6_setWeight 4 (some .int) :: wsU
abbrev wsX6_addPerson : List Cond := .code yX6_addPerson cX6_addPerson 2 (some .int) :: wsU
abbrev wsX6_subscribe : List Cond := .code yX6_subscribe cX6_subscribe 3 (some .int) :: wsU
abbrev wsX6_unsubscribe : List Cond := .code yX6_unsubscribe cX6_unsubscribe 3 (some .int) :: wsU
abbrev wsX6_report : List Cond := .code yX6_report cX6_report 5 (some .int) :: wsU
abbrev wsX6_resolve : List Cond := .code yX6_resolve cX6_resolve 4 (some .int) :: wsU
abbrev wsX6_correct : List Cond := .code yX6_correct cX6_correct 5 (some .int) :: wsU
abbrev wsX6_withdraw : List Cond := .code yX6_withdraw cX6_withdraw 3 (some .int) :: wsU
abbrev wsX6_join : List Cond := .code yX6_join cX6_join 5 (some .int) :: wsU
abbrev wsX6_maintain : List Cond := .code yX6_maintain cX6_maintain 4 (some .int) :: wsU
abbrev wsX6_callOff : List Cond := .code yX6_callOff cX6_callOff 4 (some .int) :: wsU
abbrev wsX6_pass : List Cond := .code yX6_pass cX6_pass 2 (some .int) :: wsU
abbrev wsX6_components : List Cond := .code yX6_components cX6_components 1 (some .int) :: wsU
abbrev wsX6_people : List Cond := .code yX6_people cX6_people 1 (some .int) :: wsU
abbrev wsX6_incidents : List Cond := .code yX6_incidents cX6_incidents 1 (some .int) :: wsU
abbrev wsX6_minute : List Cond := .code yX6_minute cX6_minute 1 (some .int) :: wsU
abbrev wsX6_isGroup : List Cond := .code yX6_isGroup cX6_isGroup 2 (some .boolean) :: wsU
abbrev wsX6_depth : List Cond := .code yX6_depth cX6_depth 2 (some .int) :: wsU
abbrev wsX6_leaves : List Cond := .code yX6_leaves cX6_leaves 2 (some .int) :: wsU
abbrev wsX6_belowAt : List Cond := .code yX6_belowAt cX6_belowAt 3 (some .int) :: wsU
abbrev wsX6_pathAt : List Cond := .code yX6_pathAt cX6_pathAt 3 (some .int) :: wsU
abbrev wsX6_state : List Cond := .code yX6_state cX6_state 2 (some .char) :: wsU
abbrev wsX6_stateAt : List Cond := .code yX6_stateAt cX6_stateAt 3 (some .char) :: wsU
abbrev wsX6_isExcused : List Cond := .code yX6_isExcused cX6_isExcused 3 (some .boolean) :: wsU
abbrev wsX6_weightedLoss : List Cond := .code yX6_weightedLoss cX6_weightedLoss 2 (some .int) :: wsU
abbrev wsX6_worst : List Cond := .code yX6_worst cX6_worst 2 (some .int) :: wsU
abbrev wsX6_counted : List Cond := .code yX6_counted cX6_counted 5 (some .int) :: wsU
abbrev wsX6_uptime : List Cond := .code yX6_uptime cX6_uptime 4 (some .int) :: wsU
abbrev wsX6_uptimeByMinutes : List Cond := .code yX6_uptimeByMinutes cX6_uptimeByMinutes 4 (some .int) :: wsU
abbrev wsX6_excusedShare : List Cond := .code yX6_excusedShare cX6_excusedShare 3 (some .float) :: wsU
abbrev wsX6_meanUptime : List Cond := .code yX6_meanUptime cX6_meanUptime 6 (some .double) :: wsU
abbrev wsX6_open : List Cond := .code yX6_open cX6_open 1 (some .int) :: wsU
abbrev wsX6_nextIncident : List Cond := .code yX6_nextIncident cX6_nextIncident 2 (some .int) :: wsU
abbrev wsX6_levelOf : List Cond := .code yX6_levelOf cX6_levelOf 2 (some .int) :: wsU
abbrev wsX6_startOf : List Cond := .code yX6_startOf cX6_startOf 2 (some .int) :: wsU
abbrev wsX6_endOf : List Cond := .code yX6_endOf cX6_endOf 2 (some .int) :: wsU
abbrev wsX6_caseOf : List Cond := .code yX6_caseOf cX6_caseOf 2 (some .int) :: wsU
abbrev wsX6_cases : List Cond := .code yX6_cases cX6_cases 1 (some .int) :: wsU
abbrev wsX6_caseMinutes : List Cond := .code yX6_caseMinutes cX6_caseMinutes 2 (some .int) :: wsU
abbrev wsX6_subscriptions : List Cond := .code yX6_subscriptions cX6_subscriptions 2 (some .int) :: wsU
abbrev wsX6_mails : List Cond := .code yX6_mails cX6_mails 1 (some .int) :: wsU
abbrev wsX6_mailsTo : List Cond := .code yX6_mailsTo cX6_mailsTo 2 (some .int) :: wsU
abbrev wsX6_mailPerson : List Cond := .code yX6_mailPerson cX6_mailPerson 2 (some .int) :: wsU
abbrev wsX6_mailComponent : List Cond := .code yX6_mailComponent cX6_mailComponent 2 (some .int) :: wsU
abbrev wsX6_mailState : List Cond := .code yX6_mailState cX6_mailState 2 (some .char) :: wsU
abbrev wsX6_mailMinute : List Cond := .code yX6_mailMinute cX6_mailMinute 2 (some .int) :: wsU
abbrev wsX6_needComponent : List Cond := .code yX6_needComponent cX6_needComponent 2 none :: wsU
abbrev wsX6_needPerson : List Cond := .code yX6_needPerson cX6_needPerson 2 none :: wsU
abbrev wsX6_needIncident : List Cond := .code yX6_needIncident cX6_needIncident 2 none :: wsU
abbrev wsX6_needMail : List Cond := .code yX6_needMail cX6_needMail 2 none :: wsU
abbrev wsX6_needWeight : List Cond := .code yX6_needWeight cX6_needWeight 1 none :: wsU
abbrev wsX6_needLevel : List Cond := .code yX6_needLevel cX6_needLevel 1 none :: wsU
abbrev wsX6_needMinute : List Cond := .code yX6_needMinute cX6_needMinute 3 none :: wsU
abbrev wsX6_needMonth : List Cond := .code yX6_needMonth cX6_needMonth 1 none :: wsU
abbrev wsX6_signOf : List Cond := .code yX6_signOf cX6_signOf 1 (some .char) :: wsU
abbrev wsX6_lossOf : List Cond := .code yX6_lossOf cX6_lossOf 1 (some .int) :: wsU
abbrev wsX6_levelOfMeanLoss : List Cond := .code yX6_levelOfMeanLoss cX6_levelOfMeanLoss 1 (some .int) :: wsU
abbrev wsX6_nearer : List Cond := .code yX6_nearer cX6_nearer 3 (some .int) :: wsU
abbrev wsX6_sendMails : List Cond := .code yX6_sendMails cX6_sendMails 3 none :: wsU
abbrev wsX6_subjectFor : List Cond := .code yX6_subjectFor cX6_subjectFor 4 (some .int) :: wsU
abbrev wsX6_concerns : List Cond := .code yX6_concerns cX6_concerns 5 (some .boolean) :: wsU
abbrev wsX6_shareByChanges : List Cond := .code yX6_shareByChanges cX6_shareByChanges 9 (some .int) :: wsU
abbrev wsX6_shareByMinutes : List Cond := .code yX6_shareByMinutes cX6_shareByMinutes 8 (some .int) :: wsU
abbrev wsX7_init : List Cond := .code yX7_init cX7_init 1 none :: wsU
abbrev wsX7_thrown : List Cond := .code yX7_thrown cX7_thrown 1 (some .int) :: wsU
abbrev wsX7_fails : List Cond := .code yX7_fails cX7_fails 2 (some .int) :: wsU
abbrev wsX7_isWrong : List Cond := .code yX7_isWrong cX7_isWrong 2 (some .boolean) :: wsU
abbrev wsX7_isBetween : List Cond := .code yX7_isBetween cX7_isBetween 3 (some .boolean) :: wsU
abbrev wsX7_isComponent : List Cond := .code yX7_isComponent cX7_isComponent 2 (some .boolean) :: wsU
abbrev wsX7_isIncident : List Cond := .code yX7_isIncident cX7_isIncident 2 (some .boolean) :: wsU
abbrev wsX7_isGroupNow : List Cond := .code yX7_isGroupNow cX7_isGroupNow 3 (some .boolean) :: wsU
abbrev wsX7_hasIncidents : List Cond := .code yX7_hasIncidents cX7_hasIncidents 3 (some .boolean) :: wsU
abbrev wsX7_addComponent : List Cond := .code yX7_addComponent cX7_addComponent 4 (some .int) :: wsU
abbrev wsX7_setWeight : List Cond := .code yX7_setWeight cX7_setWeight 4 (some .int) :: wsU
abbrev wsX7_loss : List Cond := .code yX7_loss cX7_loss 1 (some .int) :: wsU
abbrev wsX7_letter : List Cond := .code yX7_letter cX7_letter 1 (some .char) :: wsU
abbrev wsX7_covers : List Cond := .code yX7_covers cX7_covers 3 (some .boolean) :: wsU
abbrev wsX7_lossBy : List Cond := .code yX7_lossBy cX7_lossBy 6 (some .int) :: wsU
abbrev wsX7_levelAt : List Cond := .code yX7_levelAt cX7_levelAt 5 (some .int) :: wsU
abbrev wsX7_isExcusedAt : List Cond := .code yX7_isExcusedAt cX7_isExcusedAt 5 (some .boolean) :: wsU
abbrev wsX7_isPerson : List Cond := .code yX7_isPerson cX7_isPerson 2 (some .boolean) :: wsU
abbrev wsX7_isWanted : List Cond := .code yX7_isWanted cX7_isWanted 3 (some .boolean) :: wsU
abbrev wsX7_size : List Cond := .code yX7_size cX7_size 3 (some .int) :: wsU
abbrev wsX7_addPerson : List Cond := .code yX7_addPerson cX7_addPerson 2 (some .int) :: wsU
abbrev wsX7_wants : List Cond := .code yX7_wants cX7_wants 4 (some .int) :: wsU
abbrev wsX7_subscribe : List Cond := .code yX7_subscribe cX7_subscribe 3 (some .int) :: wsU
abbrev wsX7_unsubscribe : List Cond := .code yX7_unsubscribe cX7_unsubscribe 3 (some .int) :: wsU
abbrev wsX7_depthOf : List Cond := .code yX7_depthOf cX7_depthOf 4 (some .int) :: wsU
abbrev wsX7_notes : List Cond := .code yX7_notes cX7_notes 2 none :: wsU
abbrev wsX7_isTold : List Cond := .code yX7_isTold cX7_isTold 4 (some .boolean) :: wsU
abbrev wsX7_sends : List Cond := .code yX7_sends cX7_sends 4 none :: wsU
abbrev wsX7_report : List Cond := .code yX7_report cX7_report 4 (some .int) :: wsU
abbrev wsX7_resolve : List Cond := .code yX7_resolve cX7_resolve 3 (some .int) :: wsU
abbrev wsX7_correct : List Cond := .code yX7_correct cX7_correct 5 (some .int) :: wsU
abbrev wsX7_openMany : List Cond := .code yX7_openMany cX7_openMany 3 (some .int) :: wsU
abbrev wsX7_withdraw : List Cond := .code yX7_withdraw cX7_withdraw 2 (some .int) :: wsU
abbrev wsX7_join : List Cond := .code yX7_join cX7_join 7 (some .int) :: wsU
abbrev wsX7_maintain : List Cond := .code yX7_maintain cX7_maintain 4 (some .int) :: wsU
abbrev wsX7_callOff : List Cond := .code yX7_callOff cX7_callOff 3 (some .int) :: wsU
abbrev wsX7_pass : List Cond := .code yX7_pass cX7_pass 2 (some .int) :: wsU
abbrev wsX7_components : List Cond := .code yX7_components cX7_components 1 (some .int) :: wsU
abbrev wsX7_people : List Cond := .code yX7_people cX7_people 1 (some .int) :: wsU
abbrev wsX7_incidents : List Cond := .code yX7_incidents cX7_incidents 1 (some .int) :: wsU
abbrev wsX7_minute : List Cond := .code yX7_minute cX7_minute 1 (some .int) :: wsU
abbrev wsX7_isGroup : List Cond := .code yX7_isGroup cX7_isGroup 2 (some .boolean) :: wsU
abbrev wsX7_depth : List Cond := .code yX7_depth cX7_depth 2 (some .int) :: wsU
abbrev wsX7_leavesOf : List Cond := .code yX7_leavesOf cX7_leavesOf 4 (some .int) :: wsU
abbrev wsX7_leaves : List Cond := .code yX7_leaves cX7_leaves 2 (some .int) :: wsU
abbrev wsX7_goesDown : List Cond := .code yX7_goesDown cX7_goesDown 3 none :: wsU
abbrev wsX7_belowAt : List Cond := .code yX7_belowAt cX7_belowAt 3 (some .int) :: wsU
abbrev wsX7_pathAt : List Cond := .code yX7_pathAt cX7_pathAt 4 (some .int) :: wsU
abbrev wsX7_state : List Cond := .code yX7_state cX7_state 2 (some .char) :: wsU
abbrev wsX7_stateAt : List Cond := .code yX7_stateAt cX7_stateAt 3 (some .char) :: wsU
abbrev wsX7_isExcused : List Cond := .code yX7_isExcused cX7_isExcused 3 (some .boolean) :: wsU
abbrev wsX7_weightedLoss : List Cond := .code yX7_weightedLoss cX7_weightedLoss 2 (some .int) :: wsU
abbrev wsX7_countedIn : List Cond := .code yX7_countedIn cX7_countedIn 5 (some .int) :: wsU
abbrev wsX7_uptimeIn : List Cond := .code yX7_uptimeIn cX7_uptimeIn 5 (some .int) :: wsU
abbrev wsX7_isUnfit : List Cond := .code yX7_isUnfit cX7_isUnfit 3 (some .boolean) :: wsU
abbrev wsX7_counted : List Cond := .code yX7_counted cX7_counted 3 (some .int) :: wsU
abbrev wsX7_uptime : List Cond := .code yX7_uptime cX7_uptime 3 (some .int) :: wsU
abbrev wsX7_uptimeByMinutes : List Cond := .code yX7_uptimeByMinutes cX7_uptimeByMinutes 3 (some .int) :: wsU
abbrev wsX7_worst : List Cond := .code yX7_worst cX7_worst 5 (some .int) :: wsU
abbrev wsX7_open : List Cond := .code yX7_open cX7_open 1 (some .int) :: wsU
abbrev wsX7_nextIncident : List Cond := .code yX7_nextIncident cX7_nextIncident 3 (some .int) :: wsU
abbrev wsX7_levelOf : List Cond := .code yX7_levelOf cX7_levelOf 2 (some .int) :: wsU
abbrev wsX7_startOf : List Cond := .code yX7_startOf cX7_startOf 2 (some .int) :: wsU
abbrev wsX7_endOf : List Cond := .code yX7_endOf cX7_endOf 2 (some .int) :: wsU
abbrev wsX7_caseOf : List Cond := .code yX7_caseOf cX7_caseOf 2 (some .int) :: wsU
abbrev wsX7_cases : List Cond := .code yX7_cases cX7_cases 3 (some .int) :: wsU
abbrev wsX7_isCovered : List Cond := .code yX7_isCovered cX7_isCovered 4 (some .boolean) :: wsU
abbrev wsX7_caseMinutes : List Cond := .code yX7_caseMinutes cX7_caseMinutes 4 (some .int) :: wsU
abbrev wsX7_subscriptions : List Cond := .code yX7_subscriptions cX7_subscriptions 2 (some .int) :: wsU
abbrev wsX7_mails : List Cond := .code yX7_mails cX7_mails 1 (some .int) :: wsU
abbrev wsX7_mailsTo : List Cond := .code yX7_mailsTo cX7_mailsTo 4 (some .int) :: wsU
abbrev wsX7_isMail : List Cond := .code yX7_isMail cX7_isMail 2 (some .boolean) :: wsU
abbrev wsX7_mailPerson : List Cond := .code yX7_mailPerson cX7_mailPerson 2 (some .int) :: wsU
abbrev wsX7_mailComponent : List Cond := .code yX7_mailComponent cX7_mailComponent 2 (some .int) :: wsU
abbrev wsX7_mailState : List Cond := .code yX7_mailState cX7_mailState 2 (some .char) :: wsU
abbrev wsX7_mailMinute : List Cond := .code yX7_mailMinute cX7_mailMinute 2 (some .int) :: wsU
abbrev wsX7_excusedShare : List Cond := .code yX7_excusedShare cX7_excusedShare 4 (some .float) :: wsU
abbrev wsX7_meanUptime : List Cond := .code yX7_meanUptime cX7_meanUptime 5 (some .double) :: wsU
abbrev wsJ6_bitCount_0f7a4 : List Cond := .code yJ6_bitCount_0f7a4 cJ6_bitCount_0f7a4 1 (some .int) :: wsU
abbrev wsJ7_fill_53178 : List Cond := .code yJ7_fill_53178 cJ7_fill_53178 4 none :: wsU
abbrev wsJ7_copyOf_59c91 : List Cond := .code yJ7_copyOf_59c91 cJ7_copyOf_59c91 3 (some (.array .int)) :: wsU
abbrev wsL_addComponent : List Cond := .codeWith yL_addComponent cL_addComponent 6 (some .int) [(0, 12, 15, 13), (0, 12, 19, 15), (0, 12, 23, 17), (0, 12, 27, 19)] :: wsU
abbrev wsL_setWeight : List Cond := .codeWith yL_setWeight cL_setWeight 5 (some .int) [(0, 10, 13, 13), (0, 10, 17, 15)] :: wsU
abbrev wsL_addPerson : List Cond := .codeWith yL_addPerson cL_addPerson 4 (some .int) [(0, 9, 12, 15), (0, 9, 15, 19)] :: wsU
abbrev wsL_subscribe : List Cond := .codeWith yL_subscribe cL_subscribe 5 (some .int) [(0, 10, 13, 13), (0, 10, 17, 19)] :: wsU
abbrev wsL_unsubscribe : List Cond := .codeWith yL_unsubscribe cL_unsubscribe 5 (some .int) [(0, 10, 13, 13), (0, 10, 17, 19)] :: wsU
abbrev wsL_report : List Cond := .codeWith yL_report cL_report 6 (some .int) [(0, 12, 15, 13), (0, 12, 19, 15), (0, 12, 23, 17), (0, 12, 27, 19)] :: wsU
abbrev wsL_resolve : List Cond := .codeWith yL_resolve cL_resolve 5 (some .int) [(0, 10, 13, 13), (0, 10, 17, 19), (0, 10, 21, 15)] :: wsU
abbrev wsL_correct : List Cond := .codeWith yL_correct cL_correct 6 (some .int) [(0, 12, 15, 13), (0, 12, 19, 15)] :: wsU
abbrev wsL_withdraw : List Cond := .codeWith yL_withdraw cL_withdraw 4 (some .int) [(0, 9, 12, 13), (0, 9, 15, 19)] :: wsU
abbrev wsL_join : List Cond := .codeWith yL_join cL_join 5 (some .int) [(0, 10, 13, 13), (0, 10, 17, 19)] :: wsU
abbrev wsL_maintain : List Cond := .codeWith yL_maintain cL_maintain 6 (some .int) [(0, 12, 15, 13), (0, 12, 19, 15), (0, 12, 23, 19)] :: wsU
abbrev wsL_callOff : List Cond := .codeWith yL_callOff cL_callOff 4 (some .int) [(0, 9, 12, 13), (0, 9, 15, 19)] :: wsU
abbrev wsL_pass : List Cond := .codeWith yL_pass cL_pass 4 (some .int) [(0, 9, 12, 15), (0, 9, 15, 19)] :: wsU
abbrev wsL_isGroup : List Cond := .codeWith yL_isGroup cL_isGroup 4 (some .int) [(0, 16, 19, 13)] :: wsU
abbrev wsL_depth : List Cond := .codeWith yL_depth cL_depth 4 (some .int) [(0, 9, 12, 13)] :: wsU
abbrev wsL_leaves : List Cond := .codeWith yL_leaves cL_leaves 4 (some .int) [(0, 9, 12, 13)] :: wsU
abbrev wsL_belowAt : List Cond := .codeWith yL_belowAt cL_belowAt 5 (some .int) [(0, 10, 13, 13), (0, 10, 17, 73)] :: wsU
abbrev wsL_pathAt : List Cond := .codeWith yL_pathAt cL_pathAt 5 (some .int) [(0, 10, 13, 13), (0, 10, 17, 73)] :: wsU
abbrev wsL_state : List Cond := .codeWith yL_state cL_state 4 (some .int) [(0, 9, 12, 13)] :: wsU
abbrev wsL_stateAt : List Cond := .codeWith yL_stateAt cL_stateAt 5 (some .int) [(0, 10, 13, 13), (0, 10, 17, 15)] :: wsU
abbrev wsL_isExcused : List Cond := .codeWith yL_isExcused cL_isExcused 5 (some .int) [(0, 17, 20, 13), (0, 17, 24, 15)] :: wsU
abbrev wsL_weightedLoss : List Cond := .codeWith yL_weightedLoss cL_weightedLoss 4 (some .int) [(0, 9, 12, 13), (0, 9, 15, 17)] :: wsU
abbrev wsL_counted : List Cond := .codeWith yL_counted cL_counted 5 (some .int) [(0, 10, 13, 13), (0, 10, 17, 15)] :: wsU
abbrev wsL_uptime : List Cond := .codeWith yL_uptime cL_uptime 5 (some .int) [(0, 10, 13, 13), (0, 10, 17, 15), (0, 10, 21, 19)] :: wsU
abbrev wsL_uptimeByMinutes : List Cond := .codeWith yL_uptimeByMinutes cL_uptimeByMinutes 5 (some .int) [(0, 10, 13, 13), (0, 10, 17, 15), (0, 10, 21, 19)] :: wsU
abbrev wsL_worst : List Cond := .codeWith yL_worst cL_worst 3 (some .int) [(0, 8, 11, 13)] :: wsU
abbrev wsL_nextIncident : List Cond := .codeWith yL_nextIncident cL_nextIncident 3 (some .int) [(0, 8, 11, 13)] :: wsU
abbrev wsL_levelOf : List Cond := .codeWith yL_levelOf cL_levelOf 4 (some .int) [(0, 9, 12, 13)] :: wsU
abbrev wsL_startOf : List Cond := .codeWith yL_startOf cL_startOf 4 (some .int) [(0, 9, 12, 13)] :: wsU
abbrev wsL_endOf : List Cond := .codeWith yL_endOf cL_endOf 4 (some .int) [(0, 9, 12, 13)] :: wsU
abbrev wsL_caseOf : List Cond := .codeWith yL_caseOf cL_caseOf 4 (some .int) [(0, 9, 12, 13)] :: wsU
abbrev wsL_caseMinutes : List Cond := .codeWith yL_caseMinutes cL_caseMinutes 4 (some .int) [(0, 9, 12, 13)] :: wsU
abbrev wsL_subscriptions : List Cond := .codeWith yL_subscriptions cL_subscriptions 4 (some .int) [(0, 9, 12, 13)] :: wsU
abbrev wsL_mailsTo : List Cond := .codeWith yL_mailsTo cL_mailsTo 4 (some .int) [(0, 9, 12, 13)] :: wsU
abbrev wsL_mailPerson : List Cond := .codeWith yL_mailPerson cL_mailPerson 4 (some .int) [(0, 9, 12, 13)] :: wsU
abbrev wsL_mailComponent : List Cond := .codeWith yL_mailComponent cL_mailComponent 4 (some .int) [(0, 9, 12, 13)] :: wsU
abbrev wsL_mailState : List Cond := .codeWith yL_mailState cL_mailState 4 (some .int) [(0, 9, 12, 13)] :: wsU
abbrev wsL_mailMinute : List Cond := .codeWith yL_mailMinute cL_mailMinute 4 (some .int) [(0, 9, 12, 13)] :: wsU
abbrev wsL_excusedShare : List Cond := .codeWith yL_excusedShare cL_excusedShare 4 (some .int) [(0, 9, 12, 13), (0, 9, 15, 146)] :: wsU
abbrev wsL_meanUptime : List Cond := .codeWith yL_meanUptime cL_meanUptime 4 (some .int) [(0, 8, 11, 15), (0, 8, 14, 146)] :: wsU
