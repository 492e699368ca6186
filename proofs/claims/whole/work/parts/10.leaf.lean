/-! LEAVES: the contracts of methods that only read their own arrays. -/
set_option maxRecDepth 100000 in
set_option maxHeartbeats 4000000 in
/-- holds(n, b): the bit b of n -/
theorem c_holds (G : GX) (l : Launch) (hlt : l.stackTraces = false) (n : Nat) (b : Nat) (hn : n < 4096) (hb : b < 12) : HC G l yX5_holds wsX5_holds 0 0 0 0 [.int (iI (((n : Nat) : Int))), .int (iI (((b : Nat) : Int)))] [] (rt (some (.int (iI (bI (n.testBit b))))) []) := by
  refine kz_start cX5_holds 2 (some .boolean) [(0, .int (iI (((n : Nat) : Int)))), (1, .int (iI (((b : Nat) : Int))))] hlt (by decide) rfl (Nat.le_of_ble_eq_true rfl) rfl (fun X fx rx => ?_)
  refine kz_iload_n (pc := 0) fx 0 dX5_holds_0 rfl ?_
  refine kz_iload_n (pc := 1) fx 1 dX5_holds_1 rfl ?_
  refine kz_ishr (pc := 2) (v := (iI (((n / 2 ^ b : Nat) : Int)))) fx dX5_holds_2 (zb_shr (by omega) (by omega)) ?_
  refine kz_iconst (pc := 3) fx dX5_holds_3 ?_
  refine kz_iand (pc := 4) (v := (iI (((n / 2 ^ b % 2 : Nat) : Int)))) fx dX5_holds_4 (zb_and1 _) ?_
  refine kz_iconst (pc := 5) fx dX5_holds_5 ?_
  refine kz_icmp_ne (pc := 6) fx 13 dX5_holds_6 (by decide) ⟨by omega, by omega⟩ ⟨by decide, by decide⟩ (fun h_6 => ?_) (fun h_6 => ?_)
  · refine kz_iconst (pc := 13) fx dX5_holds_13 ?_
    refine kz_zret (pc := 14) fx rx (by decide +kernel) dX5_holds_14 (by decide) (by decide) ?_
    exact rt_i (by first | (rw [zb_tb, decide_eq_true (by omega)]; rfl) | (rw [zb_tb, decide_eq_false (by omega)]; rfl)) (rfl)
  · refine kz_iconst (pc := 9) fx dX5_holds_9 ?_
    refine kz_goto (pc := 10) (tgt := 14) fx dX5_holds_10 (by decide) ?_
    refine kz_zret (pc := 14) fx rx (by decide +kernel) dX5_holds_14 (by decide) (by decide) ?_
    exact rt_i (by first | (rw [zb_tb, decide_eq_true (by omega)]; rfl) | (rw [zb_tb, decide_eq_false (by omega)]; rfl)) (rfl)
set_option maxRecDepth 100000 in
set_option maxHeartbeats 4000000 in
/-- Integer.bitCount below 4096 -/
theorem c_bitCount (G : GX) (l : Launch) (hlt : l.stackTraces = false) (n : Nat) (hn : n < 4096) : HC G l yJ6_bitCount_0f7a4 wsJ6_bitCount_0f7a4 0 0 0 0 [.int (iI (((n : Nat) : Int)))] [] (rt (some (.int (iI (((pc12 n : Nat) : Int))))) []) := by
  obtain ⟨b1, b2, b3, b4, b5, b6, b7⟩ := bc_all n hn
  refine kz_start cJ6_bitCount_0f7a4 1 (some .int) [(0, .int (iI (((n : Nat) : Int))))] hlt (by decide) rfl (Nat.le_of_ble_eq_true rfl) rfl (fun X fx rx => ?_)
  refine kz_iload_n (pc := 0) fx 0 dJ6_bitCount_0f7a4_0 rfl ?_
  refine kz_iload_n (pc := 1) fx 0 dJ6_bitCount_0f7a4_1 rfl ?_
  refine kz_iconst (pc := 2) fx dJ6_bitCount_0f7a4_2 ?_
  refine kz_iushr (pc := 3) (v := (iI (((n / 2 ^ 1 : Nat) : Int)))) fx dJ6_bitCount_0f7a4_3 (zb_ushr (b := 1) (by omega) (by omega)) ?_
  refine kz_ldcw (pc := 4) (z := 1431655765) fx (List.mem_cons_of_mem _ (pt_2 200 rfl rfl)) (by decide +kernel) dJ6_bitCount_0f7a4_4 ?_
  refine kz_iand (pc := 7) (v := (iI (((n / 2 ^ 1 &&& 1431655765 : Nat) : Int)))) fx dJ6_bitCount_0f7a4_7 (zb_and _ _) ?_
  refine kz_isub (pc := 8) fx dJ6_bitCount_0f7a4_8 ?_
  rw [show (((n : Nat) : Int) - ((n / 2 ^ 1 &&& 1431655765 : Nat) : Int) : Int) = ((bc1 n : Nat) : Int) from by unfold bc1; omega]
  refine kz_istore_n (pc := 9) (lv' := [(0, .int (iI (((bc1 n : Nat) : Int))))]) fx dJ6_bitCount_0f7a4_9 rfl (by decide) rfl ?_
  refine kz_iload_n (pc := 10) fx 0 dJ6_bitCount_0f7a4_10 rfl ?_
  refine kz_ldcw (pc := 11) (z := 858993459) fx (List.mem_cons_of_mem _ (pt_2 201 rfl rfl)) (by decide +kernel) dJ6_bitCount_0f7a4_11 ?_
  refine kz_iand (pc := 14) (v := (iI (((bc1 n &&& 858993459 : Nat) : Int)))) fx dJ6_bitCount_0f7a4_14 (zb_and _ _) ?_
  refine kz_iload_n (pc := 15) fx 0 dJ6_bitCount_0f7a4_15 rfl ?_
  refine kz_iconst (pc := 16) fx dJ6_bitCount_0f7a4_16 ?_
  refine kz_iushr (pc := 17) (v := (iI ((((bc1 n) / 2 ^ 2 : Nat) : Int)))) fx dJ6_bitCount_0f7a4_17 (zb_ushr (b := 2) (by omega) (by omega)) ?_
  refine kz_ldcw (pc := 18) (z := 858993459) fx (List.mem_cons_of_mem _ (pt_2 201 rfl rfl)) (by decide +kernel) dJ6_bitCount_0f7a4_18 ?_
  refine kz_iand (pc := 21) (v := (iI ((((bc1 n) / 2 ^ 2 &&& 858993459 : Nat) : Int)))) fx dJ6_bitCount_0f7a4_21 (zb_and _ _) ?_
  refine kz_iadd (pc := 22) fx dJ6_bitCount_0f7a4_22 ?_
  rw [show (((bc1 n &&& 858993459 : Nat) : Int) + (((bc1 n) / 2 ^ 2 &&& 858993459 : Nat) : Int) : Int) = ((bc2 (bc1 n) : Nat) : Int) from by unfold bc2; omega]
  refine kz_istore_n (pc := 23) (lv' := [(0, .int (iI (((bc2 (bc1 n) : Nat) : Int))))]) fx dJ6_bitCount_0f7a4_23 rfl (by decide) rfl ?_
  refine kz_iload_n (pc := 24) fx 0 dJ6_bitCount_0f7a4_24 rfl ?_
  refine kz_iload_n (pc := 25) fx 0 dJ6_bitCount_0f7a4_25 rfl ?_
  refine kz_iconst (pc := 26) fx dJ6_bitCount_0f7a4_26 ?_
  refine kz_iushr (pc := 27) (v := (iI ((((bc2 (bc1 n)) / 2 ^ 4 : Nat) : Int)))) fx dJ6_bitCount_0f7a4_27 (zb_ushr (b := 4) (by omega) (by omega)) ?_
  refine kz_iadd (pc := 28) fx dJ6_bitCount_0f7a4_28 ?_
  rw [show (((bc2 (bc1 n) : Nat) : Int) + (((bc2 (bc1 n)) / 2 ^ 4 : Nat) : Int) : Int) = ((bc2 (bc1 n) + bc2 (bc1 n) / 2 ^ 4 : Nat) : Int) from by omega]
  refine kz_ldcw (pc := 29) (z := 252645135) fx (List.mem_cons_of_mem _ (pt_2 202 rfl rfl)) (by decide +kernel) dJ6_bitCount_0f7a4_29 ?_
  refine kz_iand (pc := 32) (v := (iI (((bc2 (bc1 n) + bc2 (bc1 n) / 2 ^ 4 &&& 252645135 : Nat) : Int)))) fx dJ6_bitCount_0f7a4_32 (zb_and _ _) ?_
  rw [show (((bc2 (bc1 n) + bc2 (bc1 n) / 2 ^ 4 &&& 252645135 : Nat) : Int) : Int) = ((bc3 (bc2 (bc1 n)) : Nat) : Int) from by rfl]
  refine kz_istore_n (pc := 33) (lv' := [(0, .int (iI (((bc3 (bc2 (bc1 n)) : Nat) : Int))))]) fx dJ6_bitCount_0f7a4_33 rfl (by decide) rfl ?_
  refine kz_iload_n (pc := 34) fx 0 dJ6_bitCount_0f7a4_34 rfl ?_
  refine kz_iload_n (pc := 35) fx 0 dJ6_bitCount_0f7a4_35 rfl ?_
  refine kz_bipush (pc := 36) fx dJ6_bitCount_0f7a4_36 (by decide +kernel) ?_
  refine kz_iushr (pc := 38) (v := (iI ((((bc3 (bc2 (bc1 n))) / 2 ^ 8 : Nat) : Int)))) fx dJ6_bitCount_0f7a4_38 (zb_ushr (b := 8) (by omega) (by omega)) ?_
  refine kz_iadd (pc := 39) fx dJ6_bitCount_0f7a4_39 ?_
  rw [show (((bc3 (bc2 (bc1 n)) : Nat) : Int) + (((bc3 (bc2 (bc1 n))) / 2 ^ 8 : Nat) : Int) : Int) = ((bc4 (bc3 (bc2 (bc1 n))) : Nat) : Int) from by unfold bc4; omega]
  refine kz_istore_n (pc := 40) (lv' := [(0, .int (iI (((bc4 (bc3 (bc2 (bc1 n))) : Nat) : Int))))]) fx dJ6_bitCount_0f7a4_40 rfl (by decide) rfl ?_
  refine kz_iload_n (pc := 41) fx 0 dJ6_bitCount_0f7a4_41 rfl ?_
  refine kz_iload_n (pc := 42) fx 0 dJ6_bitCount_0f7a4_42 rfl ?_
  refine kz_bipush (pc := 43) fx dJ6_bitCount_0f7a4_43 (by decide +kernel) ?_
  refine kz_iushr (pc := 45) (v := (iI ((((bc4 (bc3 (bc2 (bc1 n)))) / 2 ^ 16 : Nat) : Int)))) fx dJ6_bitCount_0f7a4_45 (zb_ushr (b := 16) (by omega) (by omega)) ?_
  refine kz_iadd (pc := 46) fx dJ6_bitCount_0f7a4_46 ?_
  rw [show (((bc4 (bc3 (bc2 (bc1 n))) : Nat) : Int) + (((bc4 (bc3 (bc2 (bc1 n)))) / 2 ^ 16 : Nat) : Int) : Int) = ((bc5 (bc4 (bc3 (bc2 (bc1 n)))) : Nat) : Int) from by unfold bc5; omega]
  refine kz_istore_n (pc := 47) (lv' := [(0, .int (iI (((bc5 (bc4 (bc3 (bc2 (bc1 n)))) : Nat) : Int))))]) fx dJ6_bitCount_0f7a4_47 rfl (by decide) rfl ?_
  refine kz_iload_n (pc := 48) fx 0 dJ6_bitCount_0f7a4_48 rfl ?_
  refine kz_bipush (pc := 49) fx dJ6_bitCount_0f7a4_49 (by decide +kernel) ?_
  refine kz_iand (pc := 51) (v := (iI (((bc5 (bc4 (bc3 (bc2 (bc1 n)))) &&& 63 : Nat) : Int)))) fx dJ6_bitCount_0f7a4_51 (zb_and _ _) ?_
  refine kz_iret (pc := 52) fx rx dJ6_bitCount_0f7a4_52 (by decide) (by decide) ?_
  exact rt_i (by rw [← b7]) (rfl)
set_option maxRecDepth 100000 in
set_option maxHeartbeats 4000000 in
/-- lossOf -/
theorem c_lossOf (G : GX) (l : Launch) (hlt : l.stackTraces = false) (v : Int) (hv : 0 ≤ v ∧ v ≤ 3) : HC G l yX6_lossOf wsX6_lossOf 0 0 0 0 [.int (iI (v))] [] (rt (some (.int (iI (lossZ v)))) []) := by
  refine kz_start cX6_lossOf 1 (some .int) [(0, .int (iI (v)))] hlt (by decide) rfl (Nat.le_of_ble_eq_true rfl) rfl (fun X fx rx => ?_)
  refine kz_iload_n (pc := 0) fx 0 dX6_lossOf_0 rfl ?_
  by_cases hs_0 : v = 0
  · refine kz_tabIn (pc := 1) (z := v) (off := 27) fx 28 dX6_lossOf_1 ⟨by omega, by omega⟩ (by omega) (by omega) (by rw [hs_0]; rfl) (by decide) ?_
    refine kz_iconst (pc := 28) fx dX6_lossOf_28 ?_
    refine kz_iret (pc := 29) fx rx dX6_lossOf_29 (by decide) (by decide) ?_
    exact rt_i (by first | (rw [hs_0]; rfl) | (rw [hs_1]; rfl) | (rw [hs_2]; rfl) | (rw [show v = 3 by omega]; rfl)) (rfl)
  by_cases hs_1 : v = 1
  · refine kz_tabIn (pc := 1) (z := v) (off := 29) fx 30 dX6_lossOf_1 ⟨by omega, by omega⟩ (by omega) (by omega) (by rw [hs_1]; rfl) (by decide) ?_
    refine kz_bipush (pc := 30) fx dX6_lossOf_30 (by decide +kernel) ?_
    refine kz_iret (pc := 32) fx rx dX6_lossOf_32 (by decide) (by decide) ?_
    exact rt_i (by first | (rw [hs_0]; rfl) | (rw [hs_1]; rfl) | (rw [hs_2]; rfl) | (rw [show v = 3 by omega]; rfl)) (rfl)
  by_cases hs_2 : v = 2
  · refine kz_tabIn (pc := 1) (z := v) (off := 32) fx 33 dX6_lossOf_1 ⟨by omega, by omega⟩ (by omega) (by omega) (by rw [hs_2]; rfl) (by decide) ?_
    refine kz_bipush (pc := 33) fx dX6_lossOf_33 (by decide +kernel) ?_
    refine kz_iret (pc := 35) fx rx dX6_lossOf_35 (by decide) (by decide) ?_
    exact rt_i (by first | (rw [hs_0]; rfl) | (rw [hs_1]; rfl) | (rw [hs_2]; rfl) | (rw [show v = 3 by omega]; rfl)) (rfl)
  refine kz_tabOut (pc := 1) (z := v) fx 36 dX6_lossOf_1 ⟨by omega, by omega⟩ (by omega) (by decide) ?_
  refine kz_bipush (pc := 36) fx dX6_lossOf_36 (by decide +kernel) ?_
  refine kz_iret (pc := 38) fx rx dX6_lossOf_38 (by decide) (by decide) ?_
  exact rt_i (by first | (rw [hs_0]; rfl) | (rw [hs_1]; rfl) | (rw [hs_2]; rfl) | (rw [show v = 3 by omega]; rfl)) (rfl)
set_option maxRecDepth 100000 in
set_option maxHeartbeats 4000000 in
/-- levelOfMeanLoss -/
theorem c_levelOfMeanLoss (G : GX) (l : Launch) (hlt : l.stackTraces = false) (v : Int) (hv : 0 ≤ v ∧ v ≤ 1000) : HC G l yX6_levelOfMeanLoss wsX6_levelOfMeanLoss 0 0 0 0 [.int (iI (v))] [] (rt (some (.int (iI (lvlZ v)))) []) := by
  refine kz_start cX6_levelOfMeanLoss 1 (some .int) [(0, .int (iI (v)))] hlt (by decide) rfl (Nat.le_of_ble_eq_true rfl) rfl (fun X fx rx => ?_)
  refine kz_iload_n (pc := 0) fx 0 dX6_levelOfMeanLoss_0 rfl ?_
  refine kz_if_gt (pc := 1) fx 6 dX6_levelOfMeanLoss_1 (by decide) ⟨by omega, by omega⟩ (fun h_1 => ?_) (fun h_1 => ?_)
  · refine kz_iload_n (pc := 6) fx 0 dX6_levelOfMeanLoss_6 rfl ?_
    refine kz_bipush (pc := 7) fx dX6_levelOfMeanLoss_7 (by decide +kernel) ?_
    refine kz_icmp_gt (pc := 9) fx 14 dX6_levelOfMeanLoss_9 (by decide) ⟨by omega, by omega⟩ ⟨by decide, by decide⟩ (fun h_9 => ?_) (fun h_9 => ?_)
    · refine kz_iload_n (pc := 14) fx 0 dX6_levelOfMeanLoss_14 rfl ?_
      refine kz_bipush (pc := 15) fx dX6_levelOfMeanLoss_15 (by decide +kernel) ?_
      refine kz_icmp_gt (pc := 17) fx 24 dX6_levelOfMeanLoss_17 (by decide) ⟨by omega, by omega⟩ ⟨by decide, by decide⟩ (fun h_17 => ?_) (fun h_17 => ?_)
      · refine kz_iconst (pc := 24) fx dX6_levelOfMeanLoss_24 ?_
        refine kz_iret (pc := 25) fx rx dX6_levelOfMeanLoss_25 (by decide) (by decide) ?_
        exact rt_i (by unfold lvlZ; repeat (first | rw [if_pos (by omega)] | rw [if_neg (by omega)])) (rfl)
      · refine kz_iconst (pc := 20) fx dX6_levelOfMeanLoss_20 ?_
        refine kz_goto (pc := 21) (tgt := 25) fx dX6_levelOfMeanLoss_21 (by decide) ?_
        refine kz_iret (pc := 25) fx rx dX6_levelOfMeanLoss_25 (by decide) (by decide) ?_
        exact rt_i (by unfold lvlZ; repeat (first | rw [if_pos (by omega)] | rw [if_neg (by omega)])) (rfl)
    · refine kz_iconst (pc := 12) fx dX6_levelOfMeanLoss_12 ?_
      refine kz_iret (pc := 13) fx rx dX6_levelOfMeanLoss_13 (by decide) (by decide) ?_
      exact rt_i (by unfold lvlZ; repeat (first | rw [if_pos (by omega)] | rw [if_neg (by omega)])) (rfl)
  · refine kz_iconst (pc := 4) fx dX6_levelOfMeanLoss_4 ?_
    refine kz_iret (pc := 5) fx rx dX6_levelOfMeanLoss_5 (by decide) (by decide) ?_
    exact rt_i (by unfold lvlZ; repeat (first | rw [if_pos (by omega)] | rw [if_neg (by omega)])) (rfl)
set_option maxRecDepth 100000 in
set_option maxHeartbeats 4000000 in
/-- nearer -/
theorem c_nearer (G : GX) (l : Launch) (hlt : l.stackTraces = false) (a : Int) (b : Int) (c : Int) (ha : -2147483648 ≤ a ∧ a < 2147483648) (hb : -2147483648 ≤ b ∧ b < 2147483648) (hc : -2147483648 ≤ c ∧ c < 2147483648) : HC G l yX6_nearer wsX6_nearer 0 0 0 0 [.int (iI (a)), .int (iI (b)), .int (iI (c))] [] (rt (some (.int (iI (nrr a b c)))) []) := by
  refine kz_start cX6_nearer 3 (some .int) [(0, .int (iI (a))), (1, .int (iI (b))), (2, .int (iI (c)))] hlt (by decide) rfl (Nat.le_of_ble_eq_true rfl) rfl (fun X fx rx => ?_)
  refine kz_iload_n (pc := 0) fx 2 dX6_nearer_0 rfl ?_
  refine kz_iload_n (pc := 1) fx 0 dX6_nearer_1 rfl ?_
  refine kz_icmp_le (pc := 2) fx 14 dX6_nearer_2 (by decide) ⟨by omega, by omega⟩ ⟨by omega, by omega⟩ (fun h_2 => ?_) (fun h_2 => ?_)
  · refine kz_iload_n (pc := 14) fx 1 dX6_nearer_14 rfl ?_
    refine kz_iret (pc := 15) fx rx dX6_nearer_15 (by decide) (by decide) ?_
    exact rt_i (by unfold nrr; first | rw [if_pos (by omega)] | rw [if_neg (by omega)]) (rfl)
  · refine kz_iload_n (pc := 5) fx 2 dX6_nearer_5 rfl ?_
    refine kz_iload_n (pc := 6) fx 1 dX6_nearer_6 rfl ?_
    refine kz_icmp_ge (pc := 7) fx 14 dX6_nearer_7 (by decide) ⟨by omega, by omega⟩ ⟨by omega, by omega⟩ (fun h_7 => ?_) (fun h_7 => ?_)
    · refine kz_iload_n (pc := 14) fx 1 dX6_nearer_14 rfl ?_
      refine kz_iret (pc := 15) fx rx dX6_nearer_15 (by decide) (by decide) ?_
      exact rt_i (by unfold nrr; first | rw [if_pos (by omega)] | rw [if_neg (by omega)]) (rfl)
    · refine kz_iload_n (pc := 10) fx 2 dX6_nearer_10 rfl ?_
      refine kz_goto (pc := 11) (tgt := 15) fx dX6_nearer_11 (by decide) ?_
      refine kz_iret (pc := 15) fx rx dX6_nearer_15 (by decide) (by decide) ?_
      exact rt_i (by unfold nrr; first | rw [if_pos (by omega)] | rw [if_neg (by omega)]) (rfl)
set_option maxRecDepth 100000 in
set_option maxHeartbeats 4000000 in
/-- signOf -/
theorem c_signOf (G : GX) (l : Launch) (hlt : l.stackTraces = false) (v : Int) (hv : 0 ≤ v ∧ v ≤ 3) : HC G l yX6_signOf wsX6_signOf 0 0 0 0 [.int (iI (v))] [] (rt (some (.int (iI (sgnZ v)))) []) := by
  refine kz_start cX6_signOf 1 (some .char) [(0, .int (iI (v)))] hlt (by decide) rfl (Nat.le_of_ble_eq_true rfl) rfl (fun X fx rx => ?_)
  refine kz_iload_n (pc := 0) fx 0 dX6_signOf_0 rfl ?_
  by_cases hs_0 : v = 0
  · refine kz_tabIn (pc := 1) (z := v) (off := 27) fx 28 dX6_signOf_1 ⟨by omega, by omega⟩ (by omega) (by omega) (by rw [hs_0]; rfl) (by decide) ?_
    refine kz_bipush (pc := 28) fx dX6_signOf_28 (by decide +kernel) ?_
    refine kz_zret (pc := 30) fx rx (by decide +kernel) dX6_signOf_30 (by decide) (by decide) ?_
    exact rt_i (by first | (rw [hs_0]; rfl) | (rw [hs_1]; rfl) | (rw [hs_2]; rfl) | (rw [show v = 3 by omega]; rfl)) (rfl)
  by_cases hs_1 : v = 1
  · refine kz_tabIn (pc := 1) (z := v) (off := 30) fx 31 dX6_signOf_1 ⟨by omega, by omega⟩ (by omega) (by omega) (by rw [hs_1]; rfl) (by decide) ?_
    refine kz_bipush (pc := 31) fx dX6_signOf_31 (by decide +kernel) ?_
    refine kz_zret (pc := 33) fx rx (by decide +kernel) dX6_signOf_33 (by decide) (by decide) ?_
    exact rt_i (by first | (rw [hs_0]; rfl) | (rw [hs_1]; rfl) | (rw [hs_2]; rfl) | (rw [show v = 3 by omega]; rfl)) (rfl)
  by_cases hs_2 : v = 2
  · refine kz_tabIn (pc := 1) (z := v) (off := 33) fx 34 dX6_signOf_1 ⟨by omega, by omega⟩ (by omega) (by omega) (by rw [hs_2]; rfl) (by decide) ?_
    refine kz_bipush (pc := 34) fx dX6_signOf_34 (by decide +kernel) ?_
    refine kz_zret (pc := 36) fx rx (by decide +kernel) dX6_signOf_36 (by decide) (by decide) ?_
    exact rt_i (by first | (rw [hs_0]; rfl) | (rw [hs_1]; rfl) | (rw [hs_2]; rfl) | (rw [show v = 3 by omega]; rfl)) (rfl)
  refine kz_tabOut (pc := 1) (z := v) fx 37 dX6_signOf_1 ⟨by omega, by omega⟩ (by omega) (by decide) ?_
  refine kz_bipush (pc := 37) fx dX6_signOf_37 (by decide +kernel) ?_
  refine kz_zret (pc := 39) fx rx (by decide +kernel) dX6_signOf_39 (by decide) (by decide) ?_
  exact rt_i (by first | (rw [hs_0]; rfl) | (rw [hs_1]; rfl) | (rw [hs_2]; rfl) | (rw [show v = 3 by omega]; rfl)) (rfl)
set_option maxRecDepth 100000 in
set_option maxHeartbeats 4000000 in
/-- countAbove -/
theorem c_countAbove (G : GX) (l : Launch) (hlt : l.stackTraces = false) (t : Nat) (q1 : Nat) (q2 : Nat) (q3 : Nat) (q4 : Nat) (q5 : Nat) (nc : Nat) (par : Nat → Int) (wt : Nat → Int) (rl : Nat → Int) (pw : Nat → Nat) (ww : Nat → Nat) (c : Nat) (hnc : nc ≤ 12) (rpw : ∀ j, pw j < 4096) (hc : c < nc) : HC G l yX5_countAbove wsX5_countAbove 1 20 0 0 [.ref t, .int (iI (((c : Nat) : Int)))] [(t, .inr (7, [.int (iI (((nc : Nat) : Int))), .ref q1, .ref q2, .ref q3, .ref q4, .ref q5])), (q1, cI G 12 par), (q2, cI G 12 wt), (q3, cC G 12 rl), (q4, cI G 12 (nz pw)), (q5, cI G 12 (nz ww))] (rt (some (.int (iI (((pc12 (pw c) : Nat) : Int) - 1)))) [(t, .inr (7, [.int (iI (((nc : Nat) : Int))), .ref q1, .ref q2, .ref q3, .ref q4, .ref q5])), (q1, cI G 12 par), (q2, cI G 12 wt), (q3, cC G 12 rl), (q4, cI G 12 (nz pw)), (q5, cI G 12 (nz ww))]) := by
  refine kz_start cX5_countAbove 2 (some .int) [(0, .ref t), (1, .int (iI (((c : Nat) : Int))))] hlt (by decide) rfl (Nat.le_of_ble_eq_true rfl) rfl (fun X fx rx => ?_)
  refine kz_aload_n (pc := 0) fx 0 dX5_countAbove_0 rfl ?_
  refine kz_get (pc := 1) (ci := 7) (C := RX5) (T := TX5) (N := 6) (ref := "Statusboard$Tree") (v := .ref q4) fx 0 4 rfl rfl (fun u h => List.mem_cons_of_mem _ (pu_X5 u h)) (by decide) (List.mem_cons_of_mem _ (pt_1 48 rfl rfl)) rfl rfl dX5_countAbove_1 ?_
  refine kz_iload_n (pc := 4) fx 1 dX5_countAbove_4 rfl ?_
  refine kz_iald (pc := 5) (f := nz pw) fx 4 c rfl rfl (by omega) (by decide) dX5_countAbove_5 ?_
  have r_1 := rpw c
  refine kz_callS (pc := 6) (As := [.int (iI (((pw c : Nat) : Int)))]) (st := []) (wc := []) fx (c_bitCount G l hlt (pw c) (by first | assumption | omega)) rt_ne (gu_S (pt_2 230 rfl rfl) (pt_2 198 rfl rfl) (pt_1 16 rfl rfl) (pt_2 199 rfl rfl)) rfl ⟨by decide, by decide, rfl⟩ (by decide) [] (by decide) rfl rfl (by decide) dX5_countAbove_6 (by decide) (by decide) (kc_rt (r := some (.int (iI (((pc12 (pw c) : Nat) : Int))))) (w1 := []) (w' := [(t, .inr (7, [.int (iI (((nc : Nat) : Int))), .ref q1, .ref q2, .ref q3, .ref q4, .ref q5])), (q1, cI G 12 par), (q2, cI G 12 wt), (q3, cC G 12 rl), (q4, cI G 12 (nz pw)), (q5, cI G 12 (nz ww))]) (is9 := [0, 1, 2, 3, 4, 5]) (stk' := [.int (iI (((pc12 (pw c) : Nat) : Int)))]) rfl (by decide) rfl ?_)
  refine kz_iconst (pc := 9) fx dX5_countAbove_9 ?_
  refine kz_isub (pc := 10) fx dX5_countAbove_10 ?_
  refine kz_iret (pc := 11) fx rx dX5_countAbove_11 (by decide) (by decide) ?_
  exact rt_i (by first | rfl | omega | (simp [*]; done)) (rfl)
set_option maxRecDepth 100000 in
set_option maxHeartbeats 4000000 in
/-- countWithin -/
theorem c_countWithin (G : GX) (l : Launch) (hlt : l.stackTraces = false) (t : Nat) (q1 : Nat) (q2 : Nat) (q3 : Nat) (q4 : Nat) (q5 : Nat) (nc : Nat) (par : Nat → Int) (wt : Nat → Int) (rl : Nat → Int) (pw : Nat → Nat) (ww : Nat → Nat) (c : Nat) (hnc : nc ≤ 12) (rww : ∀ j, ww j < 4096) (hc : c < nc) : HC G l yX5_countWithin wsX5_countWithin 1 20 0 0 [.ref t, .int (iI (((c : Nat) : Int)))] [(t, .inr (7, [.int (iI (((nc : Nat) : Int))), .ref q1, .ref q2, .ref q3, .ref q4, .ref q5])), (q1, cI G 12 par), (q2, cI G 12 wt), (q3, cC G 12 rl), (q4, cI G 12 (nz pw)), (q5, cI G 12 (nz ww))] (rt (some (.int (iI (((pc12 (ww c) : Nat) : Int))))) [(t, .inr (7, [.int (iI (((nc : Nat) : Int))), .ref q1, .ref q2, .ref q3, .ref q4, .ref q5])), (q1, cI G 12 par), (q2, cI G 12 wt), (q3, cC G 12 rl), (q4, cI G 12 (nz pw)), (q5, cI G 12 (nz ww))]) := by
  refine kz_start cX5_countWithin 2 (some .int) [(0, .ref t), (1, .int (iI (((c : Nat) : Int))))] hlt (by decide) rfl (Nat.le_of_ble_eq_true rfl) rfl (fun X fx rx => ?_)
  refine kz_aload_n (pc := 0) fx 0 dX5_countWithin_0 rfl ?_
  refine kz_get (pc := 1) (ci := 7) (C := RX5) (T := TX5) (N := 6) (ref := "Statusboard$Tree") (v := .ref q5) fx 0 5 rfl rfl (fun u h => List.mem_cons_of_mem _ (pu_X5 u h)) (by decide) (List.mem_cons_of_mem _ (pt_1 50 rfl rfl)) rfl rfl dX5_countWithin_1 ?_
  refine kz_iload_n (pc := 4) fx 1 dX5_countWithin_4 rfl ?_
  refine kz_iald (pc := 5) (f := nz ww) fx 5 c rfl rfl (by omega) (by decide) dX5_countWithin_5 ?_
  have r_1 := rww c
  refine kz_callS (pc := 6) (As := [.int (iI (((ww c : Nat) : Int)))]) (st := []) (wc := []) fx (c_bitCount G l hlt (ww c) (by first | assumption | omega)) rt_ne (gu_S (pt_2 230 rfl rfl) (pt_2 198 rfl rfl) (pt_1 16 rfl rfl) (pt_2 199 rfl rfl)) rfl ⟨by decide, by decide, rfl⟩ (by decide) [] (by decide) rfl rfl (by decide) dX5_countWithin_6 (by decide) (by decide) (kc_rt (r := some (.int (iI (((pc12 (ww c) : Nat) : Int))))) (w1 := []) (w' := [(t, .inr (7, [.int (iI (((nc : Nat) : Int))), .ref q1, .ref q2, .ref q3, .ref q4, .ref q5])), (q1, cI G 12 par), (q2, cI G 12 wt), (q3, cC G 12 rl), (q4, cI G 12 (nz pw)), (q5, cI G 12 (nz ww))]) (is9 := [0, 1, 2, 3, 4, 5]) (stk' := [.int (iI (((pc12 (ww c) : Nat) : Int)))]) rfl (by decide) rfl ?_)
  refine kz_iret (pc := 9) fx rx dX5_countWithin_9 (by decide) (by decide) ?_
  exact rt_i (by first | rfl | omega | (simp [*]; done)) (rfl)
set_option maxRecDepth 100000 in
set_option maxHeartbeats 4000000 in
/-- hasChildren -/
theorem c_hasChildren (G : GX) (l : Launch) (hlt : l.stackTraces = false) (t : Nat) (q1 : Nat) (q2 : Nat) (q3 : Nat) (q4 : Nat) (q5 : Nat) (nc : Nat) (par : Nat → Int) (wt : Nat → Int) (rl : Nat → Int) (pw : Nat → Nat) (ww : Nat → Nat) (c : Nat) (hnc : nc ≤ 12) (rww : ∀ j, ww j < 4096) (hc : c < nc) : HC G l yX5_hasChildren wsX5_hasChildren 2 41 0 0 [.ref t, .int (iI (((c : Nat) : Int)))] [(t, .inr (7, [.int (iI (((nc : Nat) : Int))), .ref q1, .ref q2, .ref q3, .ref q4, .ref q5])), (q1, cI G 12 par), (q2, cI G 12 wt), (q3, cC G 12 rl), (q4, cI G 12 (nz pw)), (q5, cI G 12 (nz ww))] (rt (some (.int (iI (bI (decide (1 < pc12 (ww c))))))) [(t, .inr (7, [.int (iI (((nc : Nat) : Int))), .ref q1, .ref q2, .ref q3, .ref q4, .ref q5])), (q1, cI G 12 par), (q2, cI G 12 wt), (q3, cC G 12 rl), (q4, cI G 12 (nz pw)), (q5, cI G 12 (nz ww))]) := by
  have hp12 := pc12_le (ww c)
  refine kz_start cX5_hasChildren 2 (some .boolean) [(0, .ref t), (1, .int (iI (((c : Nat) : Int))))] hlt (by decide) rfl (Nat.le_of_ble_eq_true rfl) rfl (fun X fx rx => ?_)
  refine kz_aload_n (pc := 0) fx 0 dX5_hasChildren_0 rfl ?_
  refine kz_iload_n (pc := 1) fx 1 dX5_hasChildren_1 rfl ?_
  refine kz_callV (pc := 2) (As := [.int (iI (((c : Nat) : Int)))]) (st := []) (q0 := 0) (wc := [(t, .inr (7, [.int (iI (((nc : Nat) : Int))), .ref q1, .ref q2, .ref q3, .ref q4, .ref q5])), (q1, cI G 12 par), (q2, cI G 12 wt), (q3, cC G 12 rl), (q4, cI G 12 (nz pw)), (q5, cI G 12 (nz ww))]) fx (c_countWithin G l hlt t q1 q2 q3 q4 q5 nc par wt rl pw ww c hnc rww hc) rt_ne (gu_V (pt_2 226 rfl rfl) (pt_2 227 rfl rfl) (pt_2 228 rfl rfl) (pt_1 2 rfl rfl) (pt_2 229 rfl rfl)) rfl ⟨rfl, by decide, by decide, rfl⟩ (by decide) [0, 1, 2, 3, 4, 5] (by decide) rfl rfl rfl rfl (by decide) dX5_hasChildren_2 (by decide) (by decide) (kc_rt (r := some (.int (iI (((pc12 (ww c) : Nat) : Int))))) (w1 := [(t, .inr (7, [.int (iI (((nc : Nat) : Int))), .ref q1, .ref q2, .ref q3, .ref q4, .ref q5])), (q1, cI G 12 par), (q2, cI G 12 wt), (q3, cC G 12 rl), (q4, cI G 12 (nz pw)), (q5, cI G 12 (nz ww))]) (w' := [(t, .inr (7, [.int (iI (((nc : Nat) : Int))), .ref q1, .ref q2, .ref q3, .ref q4, .ref q5])), (q1, cI G 12 par), (q2, cI G 12 wt), (q3, cC G 12 rl), (q4, cI G 12 (nz pw)), (q5, cI G 12 (nz ww))]) (is9 := [0, 1, 2, 3, 4, 5]) (stk' := [.int (iI (((pc12 (ww c) : Nat) : Int)))]) rfl (by decide) rfl ?_)
  refine kz_iconst (pc := 5) fx dX5_hasChildren_5 ?_
  refine kz_icmp_le (pc := 6) fx 13 dX5_hasChildren_6 (by decide) ⟨by omega, by omega⟩ ⟨by decide, by decide⟩ (fun h_6 => ?_) (fun h_6 => ?_)
  · refine kz_iconst (pc := 13) fx dX5_hasChildren_13 ?_
    refine kz_zret (pc := 14) fx rx (by decide +kernel) dX5_hasChildren_14 (by decide) (by decide) ?_
    exact rt_i (by first | (rw [decide_eq_true (by omega)]; rfl) | (rw [decide_eq_false (by omega)]; rfl)) (rfl)
  · refine kz_iconst (pc := 9) fx dX5_hasChildren_9 ?_
    refine kz_goto (pc := 10) (tgt := 14) fx dX5_hasChildren_10 (by decide) ?_
    refine kz_zret (pc := 14) fx rx (by decide +kernel) dX5_hasChildren_14 (by decide) (by decide) ?_
    exact rt_i (by first | (rw [decide_eq_true (by omega)]; rfl) | (rw [decide_eq_false (by omega)]; rfl)) (rfl)
set_option maxRecDepth 100000 in
set_option maxHeartbeats 4000000 in
/-- countLeaves -/
theorem c_countLeaves (G : GX) (l : Launch) (hlt : l.stackTraces = false) (t : Nat) (q1 : Nat) (q2 : Nat) (q3 : Nat) (q4 : Nat) (q5 : Nat) (nc : Nat) (par : Nat → Int) (wt : Nat → Int) (rl : Nat → Int) (pw : Nat → Nat) (ww : Nat → Nat) (c : Nat) (hnc : nc ≤ 12) (rww : ∀ j, ww j < 4096) (hc : c < nc) : HC G l yX5_countLeaves wsX5_countLeaves 3 62 0 0 [.ref t, .int (iI (((c : Nat) : Int)))] [(t, .inr (7, [.int (iI (((nc : Nat) : Int))), .ref q1, .ref q2, .ref q3, .ref q4, .ref q5])), (q1, cI G 12 par), (q2, cI G 12 wt), (q3, cC G 12 rl), (q4, cI G 12 (nz pw)), (q5, cI G 12 (nz ww))] (rt (some (.int (iI (((lvsN ww c nc : Nat) : Int))))) [(t, .inr (7, [.int (iI (((nc : Nat) : Int))), .ref q1, .ref q2, .ref q3, .ref q4, .ref q5])), (q1, cI G 12 par), (q2, cI G 12 wt), (q3, cC G 12 rl), (q4, cI G 12 (nz pw)), (q5, cI G 12 (nz ww))]) := by
  refine kz_start cX5_countLeaves 4 (some .int) [(0, .ref t), (1, .int (iI (((c : Nat) : Int))))] hlt (by decide) rfl (Nat.le_of_ble_eq_true rfl) rfl (fun X fx rx => ?_)
  refine kz_iconst (pc := 0) fx dX5_countLeaves_0 ?_
  refine kz_istore_n (pc := 1) (lv' := [(2, .int (iI (0))), (0, .ref t), (1, .int (iI (((c : Nat) : Int))))]) fx dX5_countLeaves_1 rfl (by decide) rfl ?_
  refine kz_iload_n (pc := 2) fx 2 dX5_countLeaves_2 rfl ?_
  refine kz_istore_n (pc := 3) (lv' := [(3, .int (iI (((c : Nat) : Int)))), (2, .int (iI (0))), (0, .ref t), (1, .int (iI (((c : Nat) : Int))))]) fx dX5_countLeaves_3 rfl (by decide) rfl ?_
  refine KK.sub (ks := [2, 3, 1, 0]) (lv' := [(0, .ref t), (1, .int (iI (((c : Nat) : Int)))), (2, .int (iI (0))), (3, .int (iI (((c : Nat) : Int))))]) rfl ?_
  have e_1 : (0 : Int) = ((lvsN ww c c : Nat) : Int) := by rw [lvs_0]; rfl
  refine KK.lve (lv' := [(0, .ref t), (1, .int (iI (((c : Nat) : Int)))), (2, .int (iI (((lvsN ww c c : Nat) : Int)))), (3, .int (iI (((c : Nat) : Int))))]) (lv_k (lv_k (lv_c e_1 (lv_k rfl)))) ?_
  refine kz_loop (σ := Nat) (fun i => nc - i) (fun i => i ≤ nc ∧ c ≤ i) (fun i => KK X G [(0, .ref t), (1, .int (iI (((c : Nat) : Int)))), (2, .int (iI (((lvsN ww c i : Nat) : Int)))), (3, .int (iI (((i : Nat) : Int))))] [(t, .inr (7, [.int (iI (((nc : Nat) : Int))), .ref q1, .ref q2, .ref q3, .ref q4, .ref q5])), (q1, cI G 12 par), (q2, cI G 12 wt), (q3, cC G 12 rl), (q4, cI G 12 (nz pw)), (q5, cI G 12 (nz ww))] 0 0 4 []) ?_ c ⟨by omega, Nat.le_refl c⟩
  intro i hI_4 ih_4
  obtain ⟨hle_4, hi1⟩ := hI_4
  show KK X G [(0, .ref t), (1, .int (iI (((c : Nat) : Int)))), (2, .int (iI (((lvsN ww c i : Nat) : Int)))), (3, .int (iI (((i : Nat) : Int))))] [(t, .inr (7, [.int (iI (((nc : Nat) : Int))), .ref q1, .ref q2, .ref q3, .ref q4, .ref q5])), (q1, cI G 12 par), (q2, cI G 12 wt), (q3, cC G 12 rl), (q4, cI G 12 (nz pw)), (q5, cI G 12 (nz ww))] 0 0 4 []
  have hcn := lvs_le ww c i
  refine kz_iload_n (pc := 4) fx 3 dX5_countLeaves_4 rfl ?_
  refine kz_aload_n (pc := 5) fx 0 dX5_countLeaves_5 rfl ?_
  refine kz_get (pc := 6) (ci := 7) (C := RX5) (T := TX5) (N := 6) (ref := "Statusboard$Tree") (v := .int (iI (((nc : Nat) : Int)))) fx 0 0 rfl rfl (fun u h => List.mem_cons_of_mem _ (pu_X5 u h)) (by decide) (List.mem_cons_of_mem _ (pt_1 38 rfl rfl)) rfl rfl dX5_countLeaves_6 ?_
  refine kz_icmp_ge (pc := 9) fx 42 dX5_countLeaves_9 (by decide) ⟨by omega, by omega⟩ ⟨by omega, by omega⟩ (fun h_9 => ?_) (fun h_9 => ?_)
  · refine kz_iload_n (pc := 42) fx 2 dX5_countLeaves_42 rfl ?_
    refine kz_iret (pc := 43) fx rx dX5_countLeaves_43 (by decide) (by decide) ?_
    exact rt_i (by rw [show i = nc by omega]) (rfl)
  · refine kz_aload_n (pc := 12) fx 0 dX5_countLeaves_12 rfl ?_
    refine kz_get (pc := 13) (ci := 7) (C := RX5) (T := TX5) (N := 6) (ref := "Statusboard$Tree") (v := .ref q5) fx 0 5 rfl rfl (fun u h => List.mem_cons_of_mem _ (pu_X5 u h)) (by decide) (List.mem_cons_of_mem _ (pt_1 50 rfl rfl)) rfl rfl dX5_countLeaves_13 ?_
    refine kz_iload_n (pc := 16) fx 1 dX5_countLeaves_16 rfl ?_
    refine kz_iald (pc := 17) (f := nz ww) fx 5 c rfl rfl (by omega) (by decide) dX5_countLeaves_17 ?_
    have r_2 := rww c
    refine kz_iload_n (pc := 18) fx 3 dX5_countLeaves_18 rfl ?_
    refine kz_callS (pc := 19) (As := [.int (iI (((ww c : Nat) : Int))), .int (iI (((i : Nat) : Int)))]) (st := []) (wc := []) fx (c_holds G l hlt (ww c) i (by first | assumption | omega) (by first | assumption | omega)) rt_ne (gu_S (pt_2 145 rfl rfl) (pt_2 146 rfl rfl) (pt_1 2 rfl rfl) (pt_2 147 rfl rfl)) rfl ⟨by decide, by decide, rfl⟩ (by decide) [] (by decide) rfl rfl (by decide) dX5_countLeaves_19 (by decide) (by decide) (kc_rt (r := some (.int (iI (bI ((ww c).testBit i))))) (w1 := []) (w' := [(t, .inr (7, [.int (iI (((nc : Nat) : Int))), .ref q1, .ref q2, .ref q3, .ref q4, .ref q5])), (q1, cI G 12 par), (q2, cI G 12 wt), (q3, cC G 12 rl), (q4, cI G 12 (nz pw)), (q5, cI G 12 (nz ww))]) (is9 := [0, 1, 2, 3, 4, 5]) (stk' := [.int (iI (bI ((ww c).testBit i)))]) rfl (by decide) rfl ?_)
    refine kz_ifb_eq (pc := 22) fx 36 dX5_countLeaves_22 (by decide) (fun h_22 => ?_) (fun h_22 => ?_)
    · refine kz_iinc (pc := 36) (k := 3) (lv' := [(3, .int (iI (((i : Nat) : Int) + 1))), (0, .ref t), (1, .int (iI (((c : Nat) : Int)))), (2, .int (iI (((lvsN ww c i : Nat) : Int))))]) fx dX5_countLeaves_36 rfl (by decide) rfl ?_
      refine kz_goto (pc := 39) (tgt := 4) fx dX5_countLeaves_39 (by decide) ?_
      refine KK.sub (ks := [1, 2, 3, 0]) (lv' := [(0, .ref t), (1, .int (iI (((c : Nat) : Int)))), (2, .int (iI (((lvsN ww c i : Nat) : Int)))), (3, .int (iI (((i : Nat) : Int) + 1)))]) rfl ?_
      have e_3 : (((lvsN ww c i : Nat) : Int) : Int) = ((lvsN ww c ((i + 1)) : Nat) : Int) := by first | (rw [lvs_t hi1 h_22 (of_decide_eq_false h_30)]; omega) | rw [lvs_f2 (of_decide_eq_true h_30)] | rw [lvs_f1 h_22]
      have e_4 : (((i : Nat) : Int) + 1 : Int) = ((((i + 1)) : Nat) : Int) := by rfl
      refine KK.lve (lv' := [(0, .ref t), (1, .int (iI (((c : Nat) : Int)))), (2, .int (iI (((lvsN ww c ((i + 1)) : Nat) : Int)))), (3, .int (iI (((((i + 1)) : Nat) : Int))))]) (lv_k (lv_k (lv_c e_3 (lv_c e_4 rfl)))) ?_
      exact ih_4 (i + 1) ⟨by omega, by omega⟩ (by omega)
    · refine kz_aload_n (pc := 25) fx 0 dX5_countLeaves_25 rfl ?_
      refine kz_iload_n (pc := 26) fx 3 dX5_countLeaves_26 rfl ?_
      refine kz_callV (pc := 27) (As := [.int (iI (((i : Nat) : Int)))]) (st := []) (q0 := 0) (wc := [(t, .inr (7, [.int (iI (((nc : Nat) : Int))), .ref q1, .ref q2, .ref q3, .ref q4, .ref q5])), (q1, cI G 12 par), (q2, cI G 12 wt), (q3, cC G 12 rl), (q4, cI G 12 (nz pw)), (q5, cI G 12 (nz ww))]) fx (c_hasChildren G l hlt t q1 q2 q3 q4 q5 nc par wt rl pw ww i hnc rww (by first | assumption | omega)) rt_ne (gu_V (pt_3 170 rfl rfl) (pt_2 223 rfl rfl) (pt_2 224 rfl rfl) (pt_1 2 rfl rfl) (pt_2 225 rfl rfl)) rfl ⟨rfl, by decide, by decide, rfl⟩ (by decide) [0, 1, 2, 3, 4, 5] (by decide) rfl rfl rfl rfl (by decide) dX5_countLeaves_27 (by decide) (by decide) (kc_rt (r := some (.int (iI (bI (decide (1 < pc12 (ww i))))))) (w1 := [(t, .inr (7, [.int (iI (((nc : Nat) : Int))), .ref q1, .ref q2, .ref q3, .ref q4, .ref q5])), (q1, cI G 12 par), (q2, cI G 12 wt), (q3, cC G 12 rl), (q4, cI G 12 (nz pw)), (q5, cI G 12 (nz ww))]) (w' := [(t, .inr (7, [.int (iI (((nc : Nat) : Int))), .ref q1, .ref q2, .ref q3, .ref q4, .ref q5])), (q1, cI G 12 par), (q2, cI G 12 wt), (q3, cC G 12 rl), (q4, cI G 12 (nz pw)), (q5, cI G 12 (nz ww))]) (is9 := [0, 1, 2, 3, 4, 5]) (stk' := [.int (iI (bI (decide (1 < pc12 (ww i)))))]) rfl (by decide) rfl ?_)
      refine kz_ifb_ne (pc := 30) fx 36 dX5_countLeaves_30 (by decide) (fun h_30 => ?_) (fun h_30 => ?_)
      · refine kz_iinc (pc := 36) (k := 3) (lv' := [(3, .int (iI (((i : Nat) : Int) + 1))), (0, .ref t), (1, .int (iI (((c : Nat) : Int)))), (2, .int (iI (((lvsN ww c i : Nat) : Int))))]) fx dX5_countLeaves_36 rfl (by decide) rfl ?_
        refine kz_goto (pc := 39) (tgt := 4) fx dX5_countLeaves_39 (by decide) ?_
        refine KK.sub (ks := [1, 2, 3, 0]) (lv' := [(0, .ref t), (1, .int (iI (((c : Nat) : Int)))), (2, .int (iI (((lvsN ww c i : Nat) : Int)))), (3, .int (iI (((i : Nat) : Int) + 1)))]) rfl ?_
        have e_5 : (((lvsN ww c i : Nat) : Int) : Int) = ((lvsN ww c ((i + 1)) : Nat) : Int) := by first | (rw [lvs_t hi1 h_22 (of_decide_eq_false h_30)]; omega) | rw [lvs_f2 (of_decide_eq_true h_30)] | rw [lvs_f1 h_22]
        have e_6 : (((i : Nat) : Int) + 1 : Int) = ((((i + 1)) : Nat) : Int) := by rfl
        refine KK.lve (lv' := [(0, .ref t), (1, .int (iI (((c : Nat) : Int)))), (2, .int (iI (((lvsN ww c ((i + 1)) : Nat) : Int)))), (3, .int (iI (((((i + 1)) : Nat) : Int))))]) (lv_k (lv_k (lv_c e_5 (lv_c e_6 rfl)))) ?_
        exact ih_4 (i + 1) ⟨by omega, by omega⟩ (by omega)
      · refine kz_iinc (pc := 33) (k := 2) (lv' := [(2, .int (iI (((lvsN ww c i : Nat) : Int) + 1))), (0, .ref t), (1, .int (iI (((c : Nat) : Int)))), (3, .int (iI (((i : Nat) : Int))))]) fx dX5_countLeaves_33 rfl (by decide) rfl ?_
        refine kz_iinc (pc := 36) (k := 3) (lv' := [(3, .int (iI (((i : Nat) : Int) + 1))), (2, .int (iI (((lvsN ww c i : Nat) : Int) + 1))), (0, .ref t), (1, .int (iI (((c : Nat) : Int))))]) fx dX5_countLeaves_36 rfl (by decide) rfl ?_
        refine kz_goto (pc := 39) (tgt := 4) fx dX5_countLeaves_39 (by decide) ?_
        refine KK.sub (ks := [2, 3, 1, 0]) (lv' := [(0, .ref t), (1, .int (iI (((c : Nat) : Int)))), (2, .int (iI (((lvsN ww c i : Nat) : Int) + 1))), (3, .int (iI (((i : Nat) : Int) + 1)))]) rfl ?_
        have e_7 : (((lvsN ww c i : Nat) : Int) + 1 : Int) = ((lvsN ww c ((i + 1)) : Nat) : Int) := by first | (rw [lvs_t hi1 h_22 (of_decide_eq_false h_30)]; omega) | rw [lvs_f2 (of_decide_eq_true h_30)] | rw [lvs_f1 h_22]
        have e_8 : (((i : Nat) : Int) + 1 : Int) = ((((i + 1)) : Nat) : Int) := by rfl
        refine KK.lve (lv' := [(0, .ref t), (1, .int (iI (((c : Nat) : Int)))), (2, .int (iI (((lvsN ww c ((i + 1)) : Nat) : Int)))), (3, .int (iI (((((i + 1)) : Nat) : Int))))]) (lv_k (lv_k (lv_c e_7 (lv_c e_8 rfl)))) ?_
        exact ih_4 (i + 1) ⟨by omega, by omega⟩ (by omega)
set_option maxRecDepth 100000 in
set_option maxHeartbeats 4000000 in
/-- isOpen -/
theorem c_isOpen (G : GX) (l : Launch) (hlt : l.stackTraces = false) (ti : Nat) (o1 : Nat) (o2 : Nat) (o3 : Nat) (o4 : Nat) (o5 : Nat) (ni : Nat) (iow : Nat → Int) (ilv : Nat → Int) (ist : Nat → Int) (ien : Nat → Int) (ics : Nat → Int) (i : Nat) (rien : ∀ j, -1 ≤ ien j ∧ ien j ≤ 10000) (hi : i < 20) : HC G l yX0_isOpen wsX0_isOpen 0 0 0 0 [.ref ti, .int (iI (((i : Nat) : Int)))] [(ti, .inr (2, [.int (iI (((ni : Nat) : Int))), .ref o1, .ref o2, .ref o3, .ref o4, .ref o5])), (o1, cI G 20 iow), (o2, cI G 20 ilv), (o3, cI G 20 ist), (o4, cI G 20 ien), (o5, cI G 20 ics)] (rt (some (.int (iI (bI (decide (ien i = -1)))))) [(ti, .inr (2, [.int (iI (((ni : Nat) : Int))), .ref o1, .ref o2, .ref o3, .ref o4, .ref o5])), (o1, cI G 20 iow), (o2, cI G 20 ilv), (o3, cI G 20 ist), (o4, cI G 20 ien), (o5, cI G 20 ics)]) := by
  refine kz_start cX0_isOpen 2 (some .boolean) [(0, .ref ti), (1, .int (iI (((i : Nat) : Int))))] hlt (by decide) rfl (Nat.le_of_ble_eq_true rfl) rfl (fun X fx rx => ?_)
  refine kz_aload_n (pc := 0) fx 0 dX0_isOpen_0 rfl ?_
  refine kz_get (pc := 1) (ci := 2) (C := RX0) (T := TX0) (N := 6) (ref := "Statusboard$Incidents") (v := .ref o4) fx 0 4 rfl rfl (fun u h => List.mem_cons_of_mem _ (pu_X0 u h)) (by decide) (List.mem_cons_of_mem _ (pt_1 100 rfl rfl)) rfl rfl dX0_isOpen_1 ?_
  refine kz_iload_n (pc := 4) fx 1 dX0_isOpen_4 rfl ?_
  refine kz_iald (pc := 5) (f := ien) fx 4 i rfl rfl (by omega) (by decide) dX0_isOpen_5 ?_
  have r_1 := rien i
  refine kz_iconst (pc := 6) fx dX0_isOpen_6 ?_
  refine kz_icmp_ne (pc := 7) fx 14 dX0_isOpen_7 (by decide) ⟨by omega, by omega⟩ ⟨by decide, by decide⟩ (fun h_7 => ?_) (fun h_7 => ?_)
  · refine kz_iconst (pc := 14) fx dX0_isOpen_14 ?_
    refine kz_zret (pc := 15) fx rx (by decide +kernel) dX0_isOpen_15 (by decide) (by decide) ?_
    exact rt_i (by simp [bI, *]) (rfl)
  · refine kz_iconst (pc := 10) fx dX0_isOpen_10 ?_
    refine kz_goto (pc := 11) (tgt := 15) fx dX0_isOpen_11 (by decide) ?_
    refine kz_zret (pc := 15) fx rx (by decide +kernel) dX0_isOpen_15 (by decide) (by decide) ?_
    exact rt_i (by simp [bI, *]) (rfl)
set_option maxRecDepth 100000 in
set_option maxHeartbeats 4000000 in
/-- covers -/
theorem c_covers (G : GX) (l : Launch) (hlt : l.stackTraces = false) (ti : Nat) (o1 : Nat) (o2 : Nat) (o3 : Nat) (o4 : Nat) (o5 : Nat) (ni : Nat) (iow : Nat → Int) (ilv : Nat → Int) (ist : Nat → Int) (ien : Nat → Int) (ics : Nat → Int) (i : Nat) (u : Int) (rist : ∀ j, 0 ≤ ist j ∧ ist j ≤ 10000) (rien : ∀ j, -1 ≤ ien j ∧ ien j ≤ 10000) (hi : i < 20) (hu : -2147483648 ≤ u ∧ u < 2147483648) : HC G l yX0_covers wsX0_covers 1 21 0 0 [.ref ti, .int (iI (((i : Nat) : Int))), .int (iI (u))] [(ti, .inr (2, [.int (iI (((ni : Nat) : Int))), .ref o1, .ref o2, .ref o3, .ref o4, .ref o5])), (o1, cI G 20 iow), (o2, cI G 20 ilv), (o3, cI G 20 ist), (o4, cI G 20 ien), (o5, cI G 20 ics)] (rt (some (.int (iI (bI (covB ist ien i u))))) [(ti, .inr (2, [.int (iI (((ni : Nat) : Int))), .ref o1, .ref o2, .ref o3, .ref o4, .ref o5])), (o1, cI G 20 iow), (o2, cI G 20 ilv), (o3, cI G 20 ist), (o4, cI G 20 ien), (o5, cI G 20 ics)]) := by
  refine kz_start cX0_covers 3 (some .boolean) [(0, .ref ti), (1, .int (iI (((i : Nat) : Int)))), (2, .int (iI (u)))] hlt (by decide) rfl (Nat.le_of_ble_eq_true rfl) rfl (fun X fx rx => ?_)
  refine kz_aload_n (pc := 0) fx 0 dX0_covers_0 rfl ?_
  refine kz_get (pc := 1) (ci := 2) (C := RX0) (T := TX0) (N := 6) (ref := "Statusboard$Incidents") (v := .ref o3) fx 0 3 rfl rfl (fun u h => List.mem_cons_of_mem _ (pu_X0 u h)) (by decide) (List.mem_cons_of_mem _ (pt_1 98 rfl rfl)) rfl rfl dX0_covers_1 ?_
  refine kz_iload_n (pc := 4) fx 1 dX0_covers_4 rfl ?_
  refine kz_iald (pc := 5) (f := ist) fx 3 i rfl rfl (by omega) (by decide) dX0_covers_5 ?_
  have r_1 := rist i
  refine kz_iload_n (pc := 6) fx 2 dX0_covers_6 rfl ?_
  refine kz_icmp_gt (pc := 7) fx 32 dX0_covers_7 (by decide) ⟨by omega, by omega⟩ ⟨by omega, by omega⟩ (fun h_7 => ?_) (fun h_7 => ?_)
  · refine kz_iconst (pc := 32) fx dX0_covers_32 ?_
    refine kz_zret (pc := 33) fx rx (by decide +kernel) dX0_covers_33 (by decide) (by decide) ?_
    exact rt_i (by simp only [covB, bI]; simp_all <;> omega) (rfl)
  · refine kz_aload_n (pc := 10) fx 0 dX0_covers_10 rfl ?_
    refine kz_iload_n (pc := 11) fx 1 dX0_covers_11 rfl ?_
    refine kz_callV (pc := 12) (As := [.int (iI (((i : Nat) : Int)))]) (st := []) (q0 := 0) (wc := [(ti, .inr (2, [.int (iI (((ni : Nat) : Int))), .ref o1, .ref o2, .ref o3, .ref o4, .ref o5])), (o1, cI G 20 iow), (o2, cI G 20 ilv), (o3, cI G 20 ist), (o4, cI G 20 ien), (o5, cI G 20 ics)]) fx (c_isOpen G l hlt ti o1 o2 o3 o4 o5 ni iow ilv ist ien ics i rien hi) rt_ne (gu_V (pt_1 222 rfl rfl) (pt_1 223 rfl rfl) (pt_1 224 rfl rfl) (pt_1 4 rfl rfl) (pt_1 225 rfl rfl)) rfl ⟨rfl, by decide, by decide, rfl⟩ (by decide) [0, 1, 2, 3, 4, 5] (by decide) rfl rfl rfl rfl (by decide) dX0_covers_12 (by decide) (by decide) (kc_rt (r := some (.int (iI (bI (decide (ien i = -1)))))) (w1 := [(ti, .inr (2, [.int (iI (((ni : Nat) : Int))), .ref o1, .ref o2, .ref o3, .ref o4, .ref o5])), (o1, cI G 20 iow), (o2, cI G 20 ilv), (o3, cI G 20 ist), (o4, cI G 20 ien), (o5, cI G 20 ics)]) (w' := [(ti, .inr (2, [.int (iI (((ni : Nat) : Int))), .ref o1, .ref o2, .ref o3, .ref o4, .ref o5])), (o1, cI G 20 iow), (o2, cI G 20 ilv), (o3, cI G 20 ist), (o4, cI G 20 ien), (o5, cI G 20 ics)]) (is9 := [0, 1, 2, 3, 4, 5]) (stk' := [.int (iI (bI (decide (ien i = -1))))]) rfl (by decide) rfl ?_)
    refine kz_ifb_ne (pc := 15) fx 28 dX0_covers_15 (by decide) (fun h_15 => ?_) (fun h_15 => ?_)
    · refine kz_iconst (pc := 28) fx dX0_covers_28 ?_
      refine kz_goto (pc := 29) (tgt := 33) fx dX0_covers_29 (by decide) ?_
      refine kz_zret (pc := 33) fx rx (by decide +kernel) dX0_covers_33 (by decide) (by decide) ?_
      exact rt_i (by simp only [covB, bI]; simp_all <;> omega) (rfl)
    · refine kz_iload_n (pc := 18) fx 2 dX0_covers_18 rfl ?_
      refine kz_aload_n (pc := 19) fx 0 dX0_covers_19 rfl ?_
      refine kz_get (pc := 20) (ci := 2) (C := RX0) (T := TX0) (N := 6) (ref := "Statusboard$Incidents") (v := .ref o4) fx 0 4 rfl rfl (fun u h => List.mem_cons_of_mem _ (pu_X0 u h)) (by decide) (List.mem_cons_of_mem _ (pt_1 100 rfl rfl)) rfl rfl dX0_covers_20 ?_
      refine kz_iload_n (pc := 23) fx 1 dX0_covers_23 rfl ?_
      refine kz_iald (pc := 24) (f := ien) fx 4 i rfl rfl (by omega) (by decide) dX0_covers_24 ?_
      have r_2 := rien i
      refine kz_icmp_ge (pc := 25) fx 32 dX0_covers_25 (by decide) ⟨by omega, by omega⟩ ⟨by omega, by omega⟩ (fun h_25 => ?_) (fun h_25 => ?_)
      · refine kz_iconst (pc := 32) fx dX0_covers_32 ?_
        refine kz_zret (pc := 33) fx rx (by decide +kernel) dX0_covers_33 (by decide) (by decide) ?_
        exact rt_i (by simp only [covB, bI]; simp_all <;> omega) (rfl)
      · refine kz_iconst (pc := 28) fx dX0_covers_28 ?_
        refine kz_goto (pc := 29) (tgt := 33) fx dX0_covers_29 (by decide) ?_
        refine kz_zret (pc := 33) fx rx (by decide +kernel) dX0_covers_33 (by decide) (by decide) ?_
        exact rt_i (by simp only [covB, bI]; simp_all <;> omega) (rfl)
set_option maxRecDepth 100000 in
set_option maxHeartbeats 4000000 in
/-- anyOf -/
theorem c_anyOf (G : GX) (l : Launch) (hlt : l.stackTraces = false) (ti : Nat) (o1 : Nat) (o2 : Nat) (o3 : Nat) (o4 : Nat) (o5 : Nat) (ni : Nat) (iow : Nat → Int) (ilv : Nat → Int) (ist : Nat → Int) (ien : Nat → Int) (ics : Nat → Int) (x : Int) (hni : ni ≤ 20) (riow : ∀ j, 0 ≤ iow j ∧ iow j < 12) (hx : -2147483648 ≤ x ∧ x < 2147483648) : HC G l yX0_anyOf wsX0_anyOf 0 0 0 0 [.ref ti, .int (iI (x))] [(ti, .inr (2, [.int (iI (((ni : Nat) : Int))), .ref o1, .ref o2, .ref o3, .ref o4, .ref o5])), (o1, cI G 20 iow), (o2, cI G 20 ilv), (o3, cI G 20 ist), (o4, cI G 20 ien), (o5, cI G 20 ics)] (rt (some (.int (iI (bI (anyN (fun k => decide (iow k = x)) ni))))) [(ti, .inr (2, [.int (iI (((ni : Nat) : Int))), .ref o1, .ref o2, .ref o3, .ref o4, .ref o5])), (o1, cI G 20 iow), (o2, cI G 20 ilv), (o3, cI G 20 ist), (o4, cI G 20 ien), (o5, cI G 20 ics)]) := by
  refine kz_start cX0_anyOf 3 (some .boolean) [(0, .ref ti), (1, .int (iI (x)))] hlt (by decide) rfl (Nat.le_of_ble_eq_true rfl) rfl (fun X fx rx => ?_)
  refine kz_iconst (pc := 0) fx dX0_anyOf_0 ?_
  refine kz_istore_n (pc := 1) (lv' := [(2, .int (iI (0))), (0, .ref ti), (1, .int (iI (x)))]) fx dX0_anyOf_1 rfl (by decide) rfl ?_
  refine KK.sub (ks := [1, 2, 0]) (lv' := [(0, .ref ti), (1, .int (iI (x))), (2, .int (iI (0)))]) rfl ?_
  refine kz_loop (σ := Nat) (fun i => ni - i) (fun i => i ≤ ni ∧ anyN (fun k => decide (iow k = x)) i = false) (fun i => KK X G [(0, .ref ti), (1, .int (iI (x))), (2, .int (iI (((i : Nat) : Int))))] [(ti, .inr (2, [.int (iI (((ni : Nat) : Int))), .ref o1, .ref o2, .ref o3, .ref o4, .ref o5])), (o1, cI G 20 iow), (o2, cI G 20 ilv), (o3, cI G 20 ist), (o4, cI G 20 ien), (o5, cI G 20 ics)] 0 0 2 []) ?_ 0 ⟨by omega, rfl⟩
  intro i hI_2 ih_2
  obtain ⟨hle_2, hno⟩ := hI_2
  show KK X G [(0, .ref ti), (1, .int (iI (x))), (2, .int (iI (((i : Nat) : Int))))] [(ti, .inr (2, [.int (iI (((ni : Nat) : Int))), .ref o1, .ref o2, .ref o3, .ref o4, .ref o5])), (o1, cI G 20 iow), (o2, cI G 20 ilv), (o3, cI G 20 ist), (o4, cI G 20 ien), (o5, cI G 20 ics)] 0 0 2 []
  refine kz_iload_n (pc := 2) fx 2 dX0_anyOf_2 rfl ?_
  refine kz_aload_n (pc := 3) fx 0 dX0_anyOf_3 rfl ?_
  refine kz_get (pc := 4) (ci := 2) (C := RX0) (T := TX0) (N := 6) (ref := "Statusboard$Incidents") (v := .int (iI (((ni : Nat) : Int)))) fx 0 0 rfl rfl (fun u h => List.mem_cons_of_mem _ (pu_X0 u h)) (by decide) (List.mem_cons_of_mem _ (pt_1 90 rfl rfl)) rfl rfl dX0_anyOf_4 ?_
  refine kz_icmp_ge (pc := 7) fx 28 dX0_anyOf_7 (by decide) ⟨by omega, by omega⟩ ⟨by omega, by omega⟩ (fun h_7 => ?_) (fun h_7 => ?_)
  · refine kz_iconst (pc := 28) fx dX0_anyOf_28 ?_
    refine kz_zret (pc := 29) fx rx (by decide +kernel) dX0_anyOf_29 (by decide) (by decide) ?_
    exact rt_i (by first | (rw [anyN_in (k := i) (by omega) (by simp [*])]; rfl) | (rw [show ni = i by omega, hno]; rfl)) (rfl)
  · refine kz_aload_n (pc := 10) fx 0 dX0_anyOf_10 rfl ?_
    refine kz_get (pc := 11) (ci := 2) (C := RX0) (T := TX0) (N := 6) (ref := "Statusboard$Incidents") (v := .ref o1) fx 0 1 rfl rfl (fun u h => List.mem_cons_of_mem _ (pu_X0 u h)) (by decide) (List.mem_cons_of_mem _ (pt_1 93 rfl rfl)) rfl rfl dX0_anyOf_11 ?_
    refine kz_iload_n (pc := 14) fx 2 dX0_anyOf_14 rfl ?_
    refine kz_iald (pc := 15) (f := iow) fx 1 i rfl rfl (by omega) (by decide) dX0_anyOf_15 ?_
    have r_1 := riow i
    refine kz_iload_n (pc := 16) fx 1 dX0_anyOf_16 rfl ?_
    refine kz_icmp_ne (pc := 17) fx 22 dX0_anyOf_17 (by decide) ⟨by omega, by omega⟩ ⟨by omega, by omega⟩ (fun h_17 => ?_) (fun h_17 => ?_)
    · refine kz_iinc (pc := 22) (k := 2) (lv' := [(2, .int (iI (((i : Nat) : Int) + 1))), (0, .ref ti), (1, .int (iI (x)))]) fx dX0_anyOf_22 rfl (by decide) rfl ?_
      refine kz_goto (pc := 25) (tgt := 2) fx dX0_anyOf_25 (by decide) ?_
      refine KK.sub (ks := [1, 2, 0]) (lv' := [(0, .ref ti), (1, .int (iI (x))), (2, .int (iI (((i : Nat) : Int) + 1)))]) rfl ?_
      have e_2 : (((i : Nat) : Int) + 1 : Int) = ((((i + 1)) : Nat) : Int) := by rfl
      refine KK.lve (lv' := [(0, .ref ti), (1, .int (iI (x))), (2, .int (iI (((((i + 1)) : Nat) : Int))))]) (lv_k (lv_k (lv_c e_2 rfl))) ?_
      exact ih_2 (i + 1) ⟨by omega, anyN_ff hno (by simp_all)⟩ (by omega)
    · refine kz_iconst (pc := 20) fx dX0_anyOf_20 ?_
      refine kz_zret (pc := 21) fx rx (by decide +kernel) dX0_anyOf_21 (by decide) (by decide) ?_
      exact rt_i (by first | (rw [anyN_in (k := i) (by omega) (by simp [*])]; rfl) | (rw [show ni = i by omega, hno]; rfl)) (rfl)
set_option maxRecDepth 100000 in
set_option maxHeartbeats 4000000 in
/-- countOpen -/
theorem c_countOpen (G : GX) (l : Launch) (hlt : l.stackTraces = false) (ti : Nat) (o1 : Nat) (o2 : Nat) (o3 : Nat) (o4 : Nat) (o5 : Nat) (ni : Nat) (iow : Nat → Int) (ilv : Nat → Int) (ist : Nat → Int) (ien : Nat → Int) (ics : Nat → Int) (hni : ni ≤ 20) (rien : ∀ j, -1 ≤ ien j ∧ ien j ≤ 10000) : HC G l yX0_countOpen wsX0_countOpen 1 21 0 0 [.ref ti] [(ti, .inr (2, [.int (iI (((ni : Nat) : Int))), .ref o1, .ref o2, .ref o3, .ref o4, .ref o5])), (o1, cI G 20 iow), (o2, cI G 20 ilv), (o3, cI G 20 ist), (o4, cI G 20 ien), (o5, cI G 20 ics)] (rt (some (.int (iI (((cN (fun k => decide (ien k = -1)) ni : Nat) : Int))))) [(ti, .inr (2, [.int (iI (((ni : Nat) : Int))), .ref o1, .ref o2, .ref o3, .ref o4, .ref o5])), (o1, cI G 20 iow), (o2, cI G 20 ilv), (o3, cI G 20 ist), (o4, cI G 20 ien), (o5, cI G 20 ics)]) := by
  refine kz_start cX0_countOpen 3 (some .int) [(0, .ref ti)] hlt (by decide) rfl (Nat.le_of_ble_eq_true rfl) rfl (fun X fx rx => ?_)
  refine kz_iconst (pc := 0) fx dX0_countOpen_0 ?_
  refine kz_istore_n (pc := 1) (lv' := [(1, .int (iI (0))), (0, .ref ti)]) fx dX0_countOpen_1 rfl (by decide) rfl ?_
  refine kz_iconst (pc := 2) fx dX0_countOpen_2 ?_
  refine kz_istore_n (pc := 3) (lv' := [(2, .int (iI (0))), (1, .int (iI (0))), (0, .ref ti)]) fx dX0_countOpen_3 rfl (by decide) rfl ?_
  refine KK.sub (ks := [2, 1, 0]) (lv' := [(0, .ref ti), (1, .int (iI (0))), (2, .int (iI (0)))]) rfl ?_
  refine kz_loop (σ := Nat) (fun i => ni - i) (fun i => i ≤ ni) (fun i => KK X G [(0, .ref ti), (1, .int (iI (((cN (fun k => decide (ien k = -1)) i : Nat) : Int)))), (2, .int (iI (((i : Nat) : Int))))] [(ti, .inr (2, [.int (iI (((ni : Nat) : Int))), .ref o1, .ref o2, .ref o3, .ref o4, .ref o5])), (o1, cI G 20 iow), (o2, cI G 20 ilv), (o3, cI G 20 ist), (o4, cI G 20 ien), (o5, cI G 20 ics)] 0 0 4 []) ?_ 0 (by omega)
  intro i hI_4 ih_4
  have hle_4 : i ≤ ni := hI_4
  show KK X G [(0, .ref ti), (1, .int (iI (((cN (fun k => decide (ien k = -1)) i : Nat) : Int)))), (2, .int (iI (((i : Nat) : Int))))] [(ti, .inr (2, [.int (iI (((ni : Nat) : Int))), .ref o1, .ref o2, .ref o3, .ref o4, .ref o5])), (o1, cI G 20 iow), (o2, cI G 20 ilv), (o3, cI G 20 ist), (o4, cI G 20 ien), (o5, cI G 20 ics)] 0 0 4 []
  have hcn := cN_le (fun k => decide (ien k = -1)) i
  refine kz_iload_n (pc := 4) fx 2 dX0_countOpen_4 rfl ?_
  refine kz_aload_n (pc := 5) fx 0 dX0_countOpen_5 rfl ?_
  refine kz_get (pc := 6) (ci := 2) (C := RX0) (T := TX0) (N := 6) (ref := "Statusboard$Incidents") (v := .int (iI (((ni : Nat) : Int)))) fx 0 0 rfl rfl (fun u h => List.mem_cons_of_mem _ (pu_X0 u h)) (by decide) (List.mem_cons_of_mem _ (pt_1 90 rfl rfl)) rfl rfl dX0_countOpen_6 ?_
  refine kz_icmp_ge (pc := 9) fx 29 dX0_countOpen_9 (by decide) ⟨by omega, by omega⟩ ⟨by omega, by omega⟩ (fun h_9 => ?_) (fun h_9 => ?_)
  · refine kz_iload_n (pc := 29) fx 1 dX0_countOpen_29 rfl ?_
    refine kz_iret (pc := 30) fx rx dX0_countOpen_30 (by decide) (by decide) ?_
    exact rt_i (by rw [show i = ni by omega]) (rfl)
  · refine kz_aload_n (pc := 12) fx 0 dX0_countOpen_12 rfl ?_
    refine kz_iload_n (pc := 13) fx 2 dX0_countOpen_13 rfl ?_
    refine kz_callV (pc := 14) (As := [.int (iI (((i : Nat) : Int)))]) (st := []) (q0 := 0) (wc := [(ti, .inr (2, [.int (iI (((ni : Nat) : Int))), .ref o1, .ref o2, .ref o3, .ref o4, .ref o5])), (o1, cI G 20 iow), (o2, cI G 20 ilv), (o3, cI G 20 ist), (o4, cI G 20 ien), (o5, cI G 20 ics)]) fx (c_isOpen G l hlt ti o1 o2 o3 o4 o5 ni iow ilv ist ien ics i rien (by first | assumption | omega)) rt_ne (gu_V (pt_1 222 rfl rfl) (pt_1 223 rfl rfl) (pt_1 224 rfl rfl) (pt_1 4 rfl rfl) (pt_1 225 rfl rfl)) rfl ⟨rfl, by decide, by decide, rfl⟩ (by decide) [0, 1, 2, 3, 4, 5] (by decide) rfl rfl rfl rfl (by decide) dX0_countOpen_14 (by decide) (by decide) (kc_rt (r := some (.int (iI (bI (decide (ien i = -1)))))) (w1 := [(ti, .inr (2, [.int (iI (((ni : Nat) : Int))), .ref o1, .ref o2, .ref o3, .ref o4, .ref o5])), (o1, cI G 20 iow), (o2, cI G 20 ilv), (o3, cI G 20 ist), (o4, cI G 20 ien), (o5, cI G 20 ics)]) (w' := [(ti, .inr (2, [.int (iI (((ni : Nat) : Int))), .ref o1, .ref o2, .ref o3, .ref o4, .ref o5])), (o1, cI G 20 iow), (o2, cI G 20 ilv), (o3, cI G 20 ist), (o4, cI G 20 ien), (o5, cI G 20 ics)]) (is9 := [0, 1, 2, 3, 4, 5]) (stk' := [.int (iI (bI (decide (ien i = -1))))]) rfl (by decide) rfl ?_)
    refine kz_ifb_eq (pc := 17) fx 23 dX0_countOpen_17 (by decide) (fun h_17 => ?_) (fun h_17 => ?_)
    · refine kz_iinc (pc := 23) (k := 2) (lv' := [(2, .int (iI (((i : Nat) : Int) + 1))), (0, .ref ti), (1, .int (iI (((cN (fun k => decide (ien k = -1)) i : Nat) : Int))))]) fx dX0_countOpen_23 rfl (by decide) rfl ?_
      refine kz_goto (pc := 26) (tgt := 4) fx dX0_countOpen_26 (by decide) ?_
      refine KK.sub (ks := [1, 2, 0]) (lv' := [(0, .ref ti), (1, .int (iI (((cN (fun k => decide (ien k = -1)) i : Nat) : Int)))), (2, .int (iI (((i : Nat) : Int) + 1)))]) rfl ?_
      have e_1 : (((cN (fun k => decide (ien k = -1)) i : Nat) : Int) : Int) = ((cN (fun k => decide (ien k = -1)) ((i + 1)) : Nat) : Int) := by first | (rw [cN_t (by simp_all)]; omega) | (rw [cN_f (by simp_all)])
      have e_2 : (((i : Nat) : Int) + 1 : Int) = ((((i + 1)) : Nat) : Int) := by rfl
      refine KK.lve (lv' := [(0, .ref ti), (1, .int (iI (((cN (fun k => decide (ien k = -1)) ((i + 1)) : Nat) : Int)))), (2, .int (iI (((((i + 1)) : Nat) : Int))))]) (lv_k (lv_c e_1 (lv_c e_2 rfl))) ?_
      exact ih_4 (i + 1) (by omega) (by omega)
    · refine kz_iinc (pc := 20) (k := 1) (lv' := [(1, .int (iI (((cN (fun k => decide (ien k = -1)) i : Nat) : Int) + 1))), (0, .ref ti), (2, .int (iI (((i : Nat) : Int))))]) fx dX0_countOpen_20 rfl (by decide) rfl ?_
      refine kz_iinc (pc := 23) (k := 2) (lv' := [(2, .int (iI (((i : Nat) : Int) + 1))), (1, .int (iI (((cN (fun k => decide (ien k = -1)) i : Nat) : Int) + 1))), (0, .ref ti)]) fx dX0_countOpen_23 rfl (by decide) rfl ?_
      refine kz_goto (pc := 26) (tgt := 4) fx dX0_countOpen_26 (by decide) ?_
      refine KK.sub (ks := [2, 1, 0]) (lv' := [(0, .ref ti), (1, .int (iI (((cN (fun k => decide (ien k = -1)) i : Nat) : Int) + 1))), (2, .int (iI (((i : Nat) : Int) + 1)))]) rfl ?_
      have e_3 : (((cN (fun k => decide (ien k = -1)) i : Nat) : Int) + 1 : Int) = ((cN (fun k => decide (ien k = -1)) ((i + 1)) : Nat) : Int) := by first | (rw [cN_t (by simp_all)]; omega) | (rw [cN_f (by simp_all)])
      have e_4 : (((i : Nat) : Int) + 1 : Int) = ((((i + 1)) : Nat) : Int) := by rfl
      refine KK.lve (lv' := [(0, .ref ti), (1, .int (iI (((cN (fun k => decide (ien k = -1)) ((i + 1)) : Nat) : Int)))), (2, .int (iI (((((i + 1)) : Nat) : Int))))]) (lv_k (lv_c e_3 (lv_c e_4 rfl))) ?_
      exact ih_4 (i + 1) (by omega) (by omega)
set_option maxRecDepth 100000 in
set_option maxHeartbeats 4000000 in
/-- countCases -/
theorem c_countCases (G : GX) (l : Launch) (hlt : l.stackTraces = false) (ti : Nat) (o1 : Nat) (o2 : Nat) (o3 : Nat) (o4 : Nat) (o5 : Nat) (ni : Nat) (iow : Nat → Int) (ilv : Nat → Int) (ist : Nat → Int) (ien : Nat → Int) (ics : Nat → Int) (hni : ni ≤ 20) (rics : ∀ j, 0 ≤ ics j ∧ ics j < 20) : HC G l yX0_countCases wsX0_countCases 0 0 0 0 [.ref ti] [(ti, .inr (2, [.int (iI (((ni : Nat) : Int))), .ref o1, .ref o2, .ref o3, .ref o4, .ref o5])), (o1, cI G 20 iow), (o2, cI G 20 ilv), (o3, cI G 20 ist), (o4, cI G 20 ien), (o5, cI G 20 ics)] (rt (some (.int (iI (((cN (fun k => decide (ics k = (k : Int))) ni : Nat) : Int))))) [(ti, .inr (2, [.int (iI (((ni : Nat) : Int))), .ref o1, .ref o2, .ref o3, .ref o4, .ref o5])), (o1, cI G 20 iow), (o2, cI G 20 ilv), (o3, cI G 20 ist), (o4, cI G 20 ien), (o5, cI G 20 ics)]) := by
  refine kz_start cX0_countCases 3 (some .int) [(0, .ref ti)] hlt (by decide) rfl (Nat.le_of_ble_eq_true rfl) rfl (fun X fx rx => ?_)
  refine kz_iconst (pc := 0) fx dX0_countCases_0 ?_
  refine kz_istore_n (pc := 1) (lv' := [(1, .int (iI (0))), (0, .ref ti)]) fx dX0_countCases_1 rfl (by decide) rfl ?_
  refine kz_iconst (pc := 2) fx dX0_countCases_2 ?_
  refine kz_istore_n (pc := 3) (lv' := [(2, .int (iI (0))), (1, .int (iI (0))), (0, .ref ti)]) fx dX0_countCases_3 rfl (by decide) rfl ?_
  refine KK.sub (ks := [2, 1, 0]) (lv' := [(0, .ref ti), (1, .int (iI (0))), (2, .int (iI (0)))]) rfl ?_
  refine kz_loop (σ := Nat) (fun i => ni - i) (fun i => i ≤ ni) (fun i => KK X G [(0, .ref ti), (1, .int (iI (((cN (fun k => decide (ics k = (k : Int))) i : Nat) : Int)))), (2, .int (iI (((i : Nat) : Int))))] [(ti, .inr (2, [.int (iI (((ni : Nat) : Int))), .ref o1, .ref o2, .ref o3, .ref o4, .ref o5])), (o1, cI G 20 iow), (o2, cI G 20 ilv), (o3, cI G 20 ist), (o4, cI G 20 ien), (o5, cI G 20 ics)] 0 0 4 []) ?_ 0 (by omega)
  intro i hI_4 ih_4
  have hle_4 : i ≤ ni := hI_4
  show KK X G [(0, .ref ti), (1, .int (iI (((cN (fun k => decide (ics k = (k : Int))) i : Nat) : Int)))), (2, .int (iI (((i : Nat) : Int))))] [(ti, .inr (2, [.int (iI (((ni : Nat) : Int))), .ref o1, .ref o2, .ref o3, .ref o4, .ref o5])), (o1, cI G 20 iow), (o2, cI G 20 ilv), (o3, cI G 20 ist), (o4, cI G 20 ien), (o5, cI G 20 ics)] 0 0 4 []
  have hcn := cN_le (fun k => decide (ics k = (k : Int))) i
  refine kz_iload_n (pc := 4) fx 2 dX0_countCases_4 rfl ?_
  refine kz_aload_n (pc := 5) fx 0 dX0_countCases_5 rfl ?_
  refine kz_get (pc := 6) (ci := 2) (C := RX0) (T := TX0) (N := 6) (ref := "Statusboard$Incidents") (v := .int (iI (((ni : Nat) : Int)))) fx 0 0 rfl rfl (fun u h => List.mem_cons_of_mem _ (pu_X0 u h)) (by decide) (List.mem_cons_of_mem _ (pt_1 90 rfl rfl)) rfl rfl dX0_countCases_6 ?_
  refine kz_icmp_ge (pc := 9) fx 31 dX0_countCases_9 (by decide) ⟨by omega, by omega⟩ ⟨by omega, by omega⟩ (fun h_9 => ?_) (fun h_9 => ?_)
  · refine kz_iload_n (pc := 31) fx 1 dX0_countCases_31 rfl ?_
    refine kz_iret (pc := 32) fx rx dX0_countCases_32 (by decide) (by decide) ?_
    exact rt_i (by rw [show i = ni by omega]) (rfl)
  · refine kz_aload_n (pc := 12) fx 0 dX0_countCases_12 rfl ?_
    refine kz_get (pc := 13) (ci := 2) (C := RX0) (T := TX0) (N := 6) (ref := "Statusboard$Incidents") (v := .ref o5) fx 0 5 rfl rfl (fun u h => List.mem_cons_of_mem _ (pu_X0 u h)) (by decide) (List.mem_cons_of_mem _ (pt_1 102 rfl rfl)) rfl rfl dX0_countCases_13 ?_
    refine kz_iload_n (pc := 16) fx 2 dX0_countCases_16 rfl ?_
    refine kz_iald (pc := 17) (f := ics) fx 5 i rfl rfl (by omega) (by decide) dX0_countCases_17 ?_
    have r_1 := rics i
    refine kz_iload_n (pc := 18) fx 2 dX0_countCases_18 rfl ?_
    refine kz_icmp_ne (pc := 19) fx 25 dX0_countCases_19 (by decide) ⟨by omega, by omega⟩ ⟨by omega, by omega⟩ (fun h_19 => ?_) (fun h_19 => ?_)
    · refine kz_iinc (pc := 25) (k := 2) (lv' := [(2, .int (iI (((i : Nat) : Int) + 1))), (0, .ref ti), (1, .int (iI (((cN (fun k => decide (ics k = (k : Int))) i : Nat) : Int))))]) fx dX0_countCases_25 rfl (by decide) rfl ?_
      refine kz_goto (pc := 28) (tgt := 4) fx dX0_countCases_28 (by decide) ?_
      refine KK.sub (ks := [1, 2, 0]) (lv' := [(0, .ref ti), (1, .int (iI (((cN (fun k => decide (ics k = (k : Int))) i : Nat) : Int)))), (2, .int (iI (((i : Nat) : Int) + 1)))]) rfl ?_
      have e_2 : (((cN (fun k => decide (ics k = (k : Int))) i : Nat) : Int) : Int) = ((cN (fun k => decide (ics k = (k : Int))) ((i + 1)) : Nat) : Int) := by first | (rw [cN_t (by simp_all)]; omega) | (rw [cN_f (by simp_all)])
      have e_3 : (((i : Nat) : Int) + 1 : Int) = ((((i + 1)) : Nat) : Int) := by rfl
      refine KK.lve (lv' := [(0, .ref ti), (1, .int (iI (((cN (fun k => decide (ics k = (k : Int))) ((i + 1)) : Nat) : Int)))), (2, .int (iI (((((i + 1)) : Nat) : Int))))]) (lv_k (lv_c e_2 (lv_c e_3 rfl))) ?_
      exact ih_4 (i + 1) (by omega) (by omega)
    · refine kz_iinc (pc := 22) (k := 1) (lv' := [(1, .int (iI (((cN (fun k => decide (ics k = (k : Int))) i : Nat) : Int) + 1))), (0, .ref ti), (2, .int (iI (((i : Nat) : Int))))]) fx dX0_countCases_22 rfl (by decide) rfl ?_
      refine kz_iinc (pc := 25) (k := 2) (lv' := [(2, .int (iI (((i : Nat) : Int) + 1))), (1, .int (iI (((cN (fun k => decide (ics k = (k : Int))) i : Nat) : Int) + 1))), (0, .ref ti)]) fx dX0_countCases_25 rfl (by decide) rfl ?_
      refine kz_goto (pc := 28) (tgt := 4) fx dX0_countCases_28 (by decide) ?_
      refine KK.sub (ks := [2, 1, 0]) (lv' := [(0, .ref ti), (1, .int (iI (((cN (fun k => decide (ics k = (k : Int))) i : Nat) : Int) + 1))), (2, .int (iI (((i : Nat) : Int) + 1)))]) rfl ?_
      have e_4 : (((cN (fun k => decide (ics k = (k : Int))) i : Nat) : Int) + 1 : Int) = ((cN (fun k => decide (ics k = (k : Int))) ((i + 1)) : Nat) : Int) := by first | (rw [cN_t (by simp_all)]; omega) | (rw [cN_f (by simp_all)])
      have e_5 : (((i : Nat) : Int) + 1 : Int) = ((((i + 1)) : Nat) : Int) := by rfl
      refine KK.lve (lv' := [(0, .ref ti), (1, .int (iI (((cN (fun k => decide (ics k = (k : Int))) ((i + 1)) : Nat) : Int)))), (2, .int (iI (((((i + 1)) : Nat) : Int))))]) (lv_k (lv_c e_4 (lv_c e_5 rfl))) ?_
      exact ih_4 (i + 1) (by omega) (by omega)
set_option maxRecDepth 100000 in
set_option maxHeartbeats 4000000 in
/-- isMoreUrgent -/
theorem c_isMoreUrgent (G : GX) (l : Launch) (hlt : l.stackTraces = false) (ti : Nat) (o1 : Nat) (o2 : Nat) (o3 : Nat) (o4 : Nat) (o5 : Nat) (ni : Nat) (iow : Nat → Int) (ilv : Nat → Int) (ist : Nat → Int) (ien : Nat → Int) (ics : Nat → Int) (i : Nat) (j : Nat) (rilv : ∀ j, 0 ≤ ilv j ∧ ilv j ≤ 3) (rist : ∀ j, 0 ≤ ist j ∧ ist j ≤ 10000) (hi : i < 20) (hj : j < 20) : HC G l yX0_isMoreUrgent wsX0_isMoreUrgent 0 0 0 0 [.ref ti, .int (iI (((i : Nat) : Int))), .int (iI (((j : Nat) : Int)))] [(ti, .inr (2, [.int (iI (((ni : Nat) : Int))), .ref o1, .ref o2, .ref o3, .ref o4, .ref o5])), (o1, cI G 20 iow), (o2, cI G 20 ilv), (o3, cI G 20 ist), (o4, cI G 20 ien), (o5, cI G 20 ics)] (rt (some (.int (iI (bI (urgB ilv ist i j))))) [(ti, .inr (2, [.int (iI (((ni : Nat) : Int))), .ref o1, .ref o2, .ref o3, .ref o4, .ref o5])), (o1, cI G 20 iow), (o2, cI G 20 ilv), (o3, cI G 20 ist), (o4, cI G 20 ien), (o5, cI G 20 ics)]) := by
  refine kz_start cX0_isMoreUrgent 3 (some .boolean) [(0, .ref ti), (1, .int (iI (((i : Nat) : Int)))), (2, .int (iI (((j : Nat) : Int))))] hlt (by decide) rfl (Nat.le_of_ble_eq_true rfl) rfl (fun X fx rx => ?_)
  refine kz_aload_n (pc := 0) fx 0 dX0_isMoreUrgent_0 rfl ?_
  refine kz_get (pc := 1) (ci := 2) (C := RX0) (T := TX0) (N := 6) (ref := "Statusboard$Incidents") (v := .ref o2) fx 0 2 rfl rfl (fun u h => List.mem_cons_of_mem _ (pu_X0 u h)) (by decide) (List.mem_cons_of_mem _ (pt_1 95 rfl rfl)) rfl rfl dX0_isMoreUrgent_1 ?_
  refine kz_iload_n (pc := 4) fx 1 dX0_isMoreUrgent_4 rfl ?_
  refine kz_iald (pc := 5) (f := ilv) fx 2 i rfl rfl (by omega) (by decide) dX0_isMoreUrgent_5 ?_
  have r_1 := rilv i
  refine kz_aload_n (pc := 6) fx 0 dX0_isMoreUrgent_6 rfl ?_
  refine kz_get (pc := 7) (ci := 2) (C := RX0) (T := TX0) (N := 6) (ref := "Statusboard$Incidents") (v := .ref o2) fx 0 2 rfl rfl (fun u h => List.mem_cons_of_mem _ (pu_X0 u h)) (by decide) (List.mem_cons_of_mem _ (pt_1 95 rfl rfl)) rfl rfl dX0_isMoreUrgent_7 ?_
  refine kz_iload_n (pc := 10) fx 2 dX0_isMoreUrgent_10 rfl ?_
  refine kz_iald (pc := 11) (f := ilv) fx 2 j rfl rfl (by omega) (by decide) dX0_isMoreUrgent_11 ?_
  have r_2 := rilv j
  refine kz_icmp_eq (pc := 12) fx 36 dX0_isMoreUrgent_12 (by decide) ⟨by omega, by omega⟩ ⟨by omega, by omega⟩ (fun h_12 => ?_) (fun h_12 => ?_)
  · refine kz_aload_n (pc := 36) fx 0 dX0_isMoreUrgent_36 rfl ?_
    refine kz_get (pc := 37) (ci := 2) (C := RX0) (T := TX0) (N := 6) (ref := "Statusboard$Incidents") (v := .ref o3) fx 0 3 rfl rfl (fun u h => List.mem_cons_of_mem _ (pu_X0 u h)) (by decide) (List.mem_cons_of_mem _ (pt_1 98 rfl rfl)) rfl rfl dX0_isMoreUrgent_37 ?_
    refine kz_iload_n (pc := 40) fx 1 dX0_isMoreUrgent_40 rfl ?_
    refine kz_iald (pc := 41) (f := ist) fx 3 i rfl rfl (by omega) (by decide) dX0_isMoreUrgent_41 ?_
    have r_3 := rist i
    refine kz_aload_n (pc := 42) fx 0 dX0_isMoreUrgent_42 rfl ?_
    refine kz_get (pc := 43) (ci := 2) (C := RX0) (T := TX0) (N := 6) (ref := "Statusboard$Incidents") (v := .ref o3) fx 0 3 rfl rfl (fun u h => List.mem_cons_of_mem _ (pu_X0 u h)) (by decide) (List.mem_cons_of_mem _ (pt_1 98 rfl rfl)) rfl rfl dX0_isMoreUrgent_43 ?_
    refine kz_iload_n (pc := 46) fx 2 dX0_isMoreUrgent_46 rfl ?_
    refine kz_iald (pc := 47) (f := ist) fx 3 j rfl rfl (by omega) (by decide) dX0_isMoreUrgent_47 ?_
    have r_4 := rist j
    refine kz_icmp_ge (pc := 48) fx 55 dX0_isMoreUrgent_48 (by decide) ⟨by omega, by omega⟩ ⟨by omega, by omega⟩ (fun h_48 => ?_) (fun h_48 => ?_)
    · refine kz_iconst (pc := 55) fx dX0_isMoreUrgent_55 ?_
      refine kz_zret (pc := 56) fx rx (by decide +kernel) dX0_isMoreUrgent_56 (by decide) (by decide) ?_
      exact rt_i (by simp only [urgB, bI]; simp_all <;> omega) (rfl)
    · refine kz_iconst (pc := 51) fx dX0_isMoreUrgent_51 ?_
      refine kz_goto (pc := 52) (tgt := 56) fx dX0_isMoreUrgent_52 (by decide) ?_
      refine kz_zret (pc := 56) fx rx (by decide +kernel) dX0_isMoreUrgent_56 (by decide) (by decide) ?_
      exact rt_i (by simp only [urgB, bI]; simp_all <;> omega) (rfl)
  · refine kz_aload_n (pc := 15) fx 0 dX0_isMoreUrgent_15 rfl ?_
    refine kz_get (pc := 16) (ci := 2) (C := RX0) (T := TX0) (N := 6) (ref := "Statusboard$Incidents") (v := .ref o2) fx 0 2 rfl rfl (fun u h => List.mem_cons_of_mem _ (pu_X0 u h)) (by decide) (List.mem_cons_of_mem _ (pt_1 95 rfl rfl)) rfl rfl dX0_isMoreUrgent_16 ?_
    refine kz_iload_n (pc := 19) fx 1 dX0_isMoreUrgent_19 rfl ?_
    refine kz_iald (pc := 20) (f := ilv) fx 2 i rfl rfl (by omega) (by decide) dX0_isMoreUrgent_20 ?_
    have r_5 := rilv i
    refine kz_aload_n (pc := 21) fx 0 dX0_isMoreUrgent_21 rfl ?_
    refine kz_get (pc := 22) (ci := 2) (C := RX0) (T := TX0) (N := 6) (ref := "Statusboard$Incidents") (v := .ref o2) fx 0 2 rfl rfl (fun u h => List.mem_cons_of_mem _ (pu_X0 u h)) (by decide) (List.mem_cons_of_mem _ (pt_1 95 rfl rfl)) rfl rfl dX0_isMoreUrgent_22 ?_
    refine kz_iload_n (pc := 25) fx 2 dX0_isMoreUrgent_25 rfl ?_
    refine kz_iald (pc := 26) (f := ilv) fx 2 j rfl rfl (by omega) (by decide) dX0_isMoreUrgent_26 ?_
    have r_6 := rilv j
    refine kz_icmp_le (pc := 27) fx 34 dX0_isMoreUrgent_27 (by decide) ⟨by omega, by omega⟩ ⟨by omega, by omega⟩ (fun h_27 => ?_) (fun h_27 => ?_)
    · refine kz_iconst (pc := 34) fx dX0_isMoreUrgent_34 ?_
      refine kz_zret (pc := 35) fx rx (by decide +kernel) dX0_isMoreUrgent_35 (by decide) (by decide) ?_
      exact rt_i (by simp only [urgB, bI]; simp_all <;> omega) (rfl)
    · refine kz_iconst (pc := 30) fx dX0_isMoreUrgent_30 ?_
      refine kz_goto (pc := 31) (tgt := 35) fx dX0_isMoreUrgent_31 (by decide) ?_
      refine kz_zret (pc := 35) fx rx (by decide +kernel) dX0_isMoreUrgent_35 (by decide) (by decide) ?_
      exact rt_i (by simp only [urgB, bI]; simp_all <;> omega) (rfl)
set_option maxRecDepth 100000 in
set_option maxHeartbeats 4000000 in
/-- mostUrgent -/
theorem c_mostUrgent (G : GX) (l : Launch) (hlt : l.stackTraces = false) (ti : Nat) (o1 : Nat) (o2 : Nat) (o3 : Nat) (o4 : Nat) (o5 : Nat) (ni : Nat) (iow : Nat → Int) (ilv : Nat → Int) (ist : Nat → Int) (ien : Nat → Int) (ics : Nat → Int) (hni : ni ≤ 20) (rilv : ∀ j, 0 ≤ ilv j ∧ ilv j ≤ 3) (rist : ∀ j, 0 ≤ ist j ∧ ist j ≤ 10000) (rien : ∀ j, -1 ≤ ien j ∧ ien j ≤ 10000) : HC G l yX0_mostUrgent wsX0_mostUrgent 1 22 0 0 [.ref ti] [(ti, .inr (2, [.int (iI (((ni : Nat) : Int))), .ref o1, .ref o2, .ref o3, .ref o4, .ref o5])), (o1, cI G 20 iow), (o2, cI G 20 ilv), (o3, cI G 20 ist), (o4, cI G 20 ien), (o5, cI G 20 ics)] (rt (some (.int (iI (muZ ilv ist ien ni)))) [(ti, .inr (2, [.int (iI (((ni : Nat) : Int))), .ref o1, .ref o2, .ref o3, .ref o4, .ref o5])), (o1, cI G 20 iow), (o2, cI G 20 ilv), (o3, cI G 20 ist), (o4, cI G 20 ien), (o5, cI G 20 ics)]) := by
  refine kz_start cX0_mostUrgent 3 (some .int) [(0, .ref ti)] hlt (by decide) rfl (Nat.le_of_ble_eq_true rfl) rfl (fun X fx rx => ?_)
  refine kz_iconst (pc := 0) fx dX0_mostUrgent_0 ?_
  refine kz_istore_n (pc := 1) (lv' := [(1, .int (iI (-1))), (0, .ref ti)]) fx dX0_mostUrgent_1 rfl (by decide) rfl ?_
  refine kz_iconst (pc := 2) fx dX0_mostUrgent_2 ?_
  refine kz_istore_n (pc := 3) (lv' := [(2, .int (iI (0))), (1, .int (iI (-1))), (0, .ref ti)]) fx dX0_mostUrgent_3 rfl (by decide) rfl ?_
  refine KK.sub (ks := [2, 1, 0]) (lv' := [(0, .ref ti), (1, .int (iI (-1))), (2, .int (iI (0)))]) rfl ?_
  refine kz_loop (σ := Nat) (fun i => ni - i) (fun i => i ≤ ni) (fun i => KK X G [(0, .ref ti), (1, .int (iI (muZ ilv ist ien i))), (2, .int (iI (((i : Nat) : Int))))] [(ti, .inr (2, [.int (iI (((ni : Nat) : Int))), .ref o1, .ref o2, .ref o3, .ref o4, .ref o5])), (o1, cI G 20 iow), (o2, cI G 20 ilv), (o3, cI G 20 ist), (o4, cI G 20 ien), (o5, cI G 20 ics)] 0 0 4 []) ?_ 0 (by omega)
  intro i hI_4 ih_4
  have hle_4 : i ≤ ni := hI_4
  show KK X G [(0, .ref ti), (1, .int (iI (muZ ilv ist ien i))), (2, .int (iI (((i : Nat) : Int))))] [(ti, .inr (2, [.int (iI (((ni : Nat) : Int))), .ref o1, .ref o2, .ref o3, .ref o4, .ref o5])), (o1, cI G 20 iow), (o2, cI G 20 ilv), (o3, cI G 20 ist), (o4, cI G 20 ien), (o5, cI G 20 ics)] 0 0 4 []
  have hmu := muZ_r ilv ist ien i
  refine kz_iload_n (pc := 4) fx 2 dX0_mostUrgent_4 rfl ?_
  refine kz_aload_n (pc := 5) fx 0 dX0_mostUrgent_5 rfl ?_
  refine kz_get (pc := 6) (ci := 2) (C := RX0) (T := TX0) (N := 6) (ref := "Statusboard$Incidents") (v := .int (iI (((ni : Nat) : Int)))) fx 0 0 rfl rfl (fun u h => List.mem_cons_of_mem _ (pu_X0 u h)) (by decide) (List.mem_cons_of_mem _ (pt_1 90 rfl rfl)) rfl rfl dX0_mostUrgent_6 ?_
  refine kz_icmp_ge (pc := 9) fx 42 dX0_mostUrgent_9 (by decide) ⟨by omega, by omega⟩ ⟨by omega, by omega⟩ (fun h_9 => ?_) (fun h_9 => ?_)
  · refine kz_iload_n (pc := 42) fx 1 dX0_mostUrgent_42 rfl ?_
    refine kz_iret (pc := 43) fx rx dX0_mostUrgent_43 (by decide) (by decide) ?_
    exact rt_i (by rw [show i = ni by omega]) (rfl)
  · refine kz_aload_n (pc := 12) fx 0 dX0_mostUrgent_12 rfl ?_
    refine kz_iload_n (pc := 13) fx 2 dX0_mostUrgent_13 rfl ?_
    refine kz_callV (pc := 14) (As := [.int (iI (((i : Nat) : Int)))]) (st := []) (q0 := 0) (wc := [(ti, .inr (2, [.int (iI (((ni : Nat) : Int))), .ref o1, .ref o2, .ref o3, .ref o4, .ref o5])), (o1, cI G 20 iow), (o2, cI G 20 ilv), (o3, cI G 20 ist), (o4, cI G 20 ien), (o5, cI G 20 ics)]) fx (c_isOpen G l hlt ti o1 o2 o3 o4 o5 ni iow ilv ist ien ics i rien (by first | assumption | omega)) rt_ne (gu_V (pt_1 222 rfl rfl) (pt_1 223 rfl rfl) (pt_1 224 rfl rfl) (pt_1 4 rfl rfl) (pt_1 225 rfl rfl)) rfl ⟨rfl, by decide, by decide, rfl⟩ (by decide) [0, 1, 2, 3, 4, 5] (by decide) rfl rfl rfl rfl (by decide) dX0_mostUrgent_14 (by decide) (by decide) (kc_rt (r := some (.int (iI (bI (decide (ien i = -1)))))) (w1 := [(ti, .inr (2, [.int (iI (((ni : Nat) : Int))), .ref o1, .ref o2, .ref o3, .ref o4, .ref o5])), (o1, cI G 20 iow), (o2, cI G 20 ilv), (o3, cI G 20 ist), (o4, cI G 20 ien), (o5, cI G 20 ics)]) (w' := [(ti, .inr (2, [.int (iI (((ni : Nat) : Int))), .ref o1, .ref o2, .ref o3, .ref o4, .ref o5])), (o1, cI G 20 iow), (o2, cI G 20 ilv), (o3, cI G 20 ist), (o4, cI G 20 ien), (o5, cI G 20 ics)]) (is9 := [0, 1, 2, 3, 4, 5]) (stk' := [.int (iI (bI (decide (ien i = -1))))]) rfl (by decide) rfl ?_)
    refine kz_ifb_eq (pc := 17) fx 36 dX0_mostUrgent_17 (by decide) (fun h_17 => ?_) (fun h_17 => ?_)
    · refine kz_iinc (pc := 36) (k := 2) (lv' := [(2, .int (iI (((i : Nat) : Int) + 1))), (0, .ref ti), (1, .int (iI (muZ ilv ist ien i)))]) fx dX0_mostUrgent_36 rfl (by decide) rfl ?_
      refine kz_goto (pc := 39) (tgt := 4) fx dX0_mostUrgent_39 (by decide) ?_
      refine KK.sub (ks := [1, 2, 0]) (lv' := [(0, .ref ti), (1, .int (iI (muZ ilv ist ien i))), (2, .int (iI (((i : Nat) : Int) + 1)))]) rfl ?_
      have e_1 : (muZ ilv ist ien i : Int) = muZ ilv ist ien ((i + 1)) := by first | rw [muZ_a (by simpa using h_17) (by assumption)] | rw [muZ_b (by simpa using h_17) (by assumption)] | rw [muZ_c (by simpa using h_17)] | (rw [muZ_d (by assumption) (by assumption)]; omega)
      have e_2 : (((i : Nat) : Int) + 1 : Int) = ((((i + 1)) : Nat) : Int) := by rfl
      refine KK.lve (lv' := [(0, .ref ti), (1, .int (iI (muZ ilv ist ien ((i + 1))))), (2, .int (iI (((((i + 1)) : Nat) : Int))))]) (lv_k (lv_c e_1 (lv_c e_2 rfl))) ?_
      exact ih_4 (i + 1) (by omega) (by omega)
    · refine kz_iload_n (pc := 20) fx 1 dX0_mostUrgent_20 rfl ?_
      refine kz_iconst (pc := 21) fx dX0_mostUrgent_21 ?_
      refine kz_icmp_eq (pc := 22) fx 34 dX0_mostUrgent_22 (by decide) ⟨by omega, by omega⟩ ⟨by decide, by decide⟩ (fun h_22 => ?_) (fun h_22 => ?_)
      · refine kz_iload_n (pc := 34) fx 2 dX0_mostUrgent_34 rfl ?_
        refine kz_istore_n (pc := 35) (lv' := [(1, .int (iI (((i : Nat) : Int)))), (0, .ref ti), (2, .int (iI (((i : Nat) : Int))))]) fx dX0_mostUrgent_35 rfl (by decide) rfl ?_
        refine kz_iinc (pc := 36) (k := 2) (lv' := [(2, .int (iI (((i : Nat) : Int) + 1))), (1, .int (iI (((i : Nat) : Int)))), (0, .ref ti)]) fx dX0_mostUrgent_36 rfl (by decide) rfl ?_
        refine kz_goto (pc := 39) (tgt := 4) fx dX0_mostUrgent_39 (by decide) ?_
        refine KK.sub (ks := [2, 1, 0]) (lv' := [(0, .ref ti), (1, .int (iI (((i : Nat) : Int)))), (2, .int (iI (((i : Nat) : Int) + 1)))]) rfl ?_
        have e_3 : (((i : Nat) : Int) : Int) = muZ ilv ist ien ((i + 1)) := by first | rw [muZ_a (by simpa using h_17) (by assumption)] | rw [muZ_b (by simpa using h_17) (by assumption)] | rw [muZ_c (by simpa using h_17)] | (rw [muZ_d (by assumption) (by assumption)]; omega)
        have e_4 : (((i : Nat) : Int) + 1 : Int) = ((((i + 1)) : Nat) : Int) := by rfl
        refine KK.lve (lv' := [(0, .ref ti), (1, .int (iI (muZ ilv ist ien ((i + 1))))), (2, .int (iI (((((i + 1)) : Nat) : Int))))]) (lv_k (lv_c e_3 (lv_c e_4 rfl))) ?_
        exact ih_4 (i + 1) (by omega) (by omega)
      · refine kz_aload_n (pc := 25) fx 0 dX0_mostUrgent_25 rfl ?_
        refine kz_iload_n (pc := 26) fx 2 dX0_mostUrgent_26 rfl ?_
        refine kz_iload_n (pc := 27) fx 1 dX0_mostUrgent_27 rfl ?_
        have ct_5 : muZ ilv ist ien i = ((((muZ ilv ist ien i).toNat) : Nat) : Int) := by omega
        rw [ct_5]
        refine kz_callV (pc := 28) (As := [.int (iI (((i : Nat) : Int))), .int (iI (((((muZ ilv ist ien i).toNat) : Nat) : Int)))]) (st := []) (q0 := 0) (wc := [(ti, .inr (2, [.int (iI (((ni : Nat) : Int))), .ref o1, .ref o2, .ref o3, .ref o4, .ref o5])), (o1, cI G 20 iow), (o2, cI G 20 ilv), (o3, cI G 20 ist), (o4, cI G 20 ien), (o5, cI G 20 ics)]) fx (c_isMoreUrgent G l hlt ti o1 o2 o3 o4 o5 ni iow ilv ist ien ics i ((muZ ilv ist ien i).toNat) (by first | assumption | omega) (by first | assumption | omega) (by first | assumption | omega) (by first | assumption | omega)) rt_ne (gu_V (pt_4 101 rfl rfl) (pt_4 103 rfl rfl) (pt_s 11 rfl rfl) (pt_1 4 rfl rfl) (pt_4 104 rfl rfl)) rfl ⟨rfl, by decide, by decide, rfl⟩ (by decide) [0, 1, 2, 3, 4, 5] (by decide) rfl rfl rfl rfl (by decide) dX0_mostUrgent_28 (by decide) (by decide) (kc_rt (r := some (.int (iI (bI (urgB ilv ist i (((muZ ilv ist ien i).toNat))))))) (w1 := [(ti, .inr (2, [.int (iI (((ni : Nat) : Int))), .ref o1, .ref o2, .ref o3, .ref o4, .ref o5])), (o1, cI G 20 iow), (o2, cI G 20 ilv), (o3, cI G 20 ist), (o4, cI G 20 ien), (o5, cI G 20 ics)]) (w' := [(ti, .inr (2, [.int (iI (((ni : Nat) : Int))), .ref o1, .ref o2, .ref o3, .ref o4, .ref o5])), (o1, cI G 20 iow), (o2, cI G 20 ilv), (o3, cI G 20 ist), (o4, cI G 20 ien), (o5, cI G 20 ics)]) (is9 := [0, 1, 2, 3, 4, 5]) (stk' := [.int (iI (bI (urgB ilv ist i (((muZ ilv ist ien i).toNat)))))]) rfl (by decide) rfl ?_)
        refine kz_ifb_eq (pc := 31) fx 36 dX0_mostUrgent_31 (by decide) (fun h_31 => ?_) (fun h_31 => ?_)
        · refine kz_iinc (pc := 36) (k := 2) (lv' := [(2, .int (iI (((i : Nat) : Int) + 1))), (0, .ref ti), (1, .int (iI (((((muZ ilv ist ien i).toNat) : Nat) : Int))))]) fx dX0_mostUrgent_36 rfl (by decide) rfl ?_
          refine kz_goto (pc := 39) (tgt := 4) fx dX0_mostUrgent_39 (by decide) ?_
          refine KK.sub (ks := [1, 2, 0]) (lv' := [(0, .ref ti), (1, .int (iI (((((muZ ilv ist ien i).toNat) : Nat) : Int)))), (2, .int (iI (((i : Nat) : Int) + 1)))]) rfl ?_
          have e_6 : (((((muZ ilv ist ien i).toNat) : Nat) : Int) : Int) = muZ ilv ist ien ((i + 1)) := by first | rw [muZ_a (by simpa using h_17) (by assumption)] | rw [muZ_b (by simpa using h_17) (by assumption)] | rw [muZ_c (by simpa using h_17)] | (rw [muZ_d (by assumption) (by assumption)]; omega)
          have e_7 : (((i : Nat) : Int) + 1 : Int) = ((((i + 1)) : Nat) : Int) := by rfl
          refine KK.lve (lv' := [(0, .ref ti), (1, .int (iI (muZ ilv ist ien ((i + 1))))), (2, .int (iI (((((i + 1)) : Nat) : Int))))]) (lv_k (lv_c e_6 (lv_c e_7 rfl))) ?_
          exact ih_4 (i + 1) (by omega) (by omega)
        · refine kz_iload_n (pc := 34) fx 2 dX0_mostUrgent_34 rfl ?_
          refine kz_istore_n (pc := 35) (lv' := [(1, .int (iI (((i : Nat) : Int)))), (0, .ref ti), (2, .int (iI (((i : Nat) : Int))))]) fx dX0_mostUrgent_35 rfl (by decide) rfl ?_
          refine kz_iinc (pc := 36) (k := 2) (lv' := [(2, .int (iI (((i : Nat) : Int) + 1))), (1, .int (iI (((i : Nat) : Int)))), (0, .ref ti)]) fx dX0_mostUrgent_36 rfl (by decide) rfl ?_
          refine kz_goto (pc := 39) (tgt := 4) fx dX0_mostUrgent_39 (by decide) ?_
          refine KK.sub (ks := [2, 1, 0]) (lv' := [(0, .ref ti), (1, .int (iI (((i : Nat) : Int)))), (2, .int (iI (((i : Nat) : Int) + 1)))]) rfl ?_
          have e_8 : (((i : Nat) : Int) : Int) = muZ ilv ist ien ((i + 1)) := by first | rw [muZ_a (by simpa using h_17) (by assumption)] | rw [muZ_b (by simpa using h_17) (by assumption)] | rw [muZ_c (by simpa using h_17)] | (rw [muZ_d (by assumption) (by assumption)]; omega)
          have e_9 : (((i : Nat) : Int) + 1 : Int) = ((((i + 1)) : Nat) : Int) := by rfl
          refine KK.lve (lv' := [(0, .ref ti), (1, .int (iI (muZ ilv ist ien ((i + 1))))), (2, .int (iI (((((i + 1)) : Nat) : Int))))]) (lv_k (lv_c e_8 (lv_c e_9 rfl))) ?_
          exact ih_4 (i + 1) (by omega) (by omega)
set_option maxRecDepth 100000 in
set_option maxHeartbeats 4000000 in
/-- caseCovers -/
theorem c_caseCovers (G : GX) (l : Launch) (hlt : l.stackTraces = false) (ti : Nat) (o1 : Nat) (o2 : Nat) (o3 : Nat) (o4 : Nat) (o5 : Nat) (ni : Nat) (iow : Nat → Int) (ilv : Nat → Int) (ist : Nat → Int) (ien : Nat → Int) (ics : Nat → Int) (x : Int) (u : Int) (hni : ni ≤ 20) (rist : ∀ j, 0 ≤ ist j ∧ ist j ≤ 10000) (rien : ∀ j, -1 ≤ ien j ∧ ien j ≤ 10000) (rics : ∀ j, 0 ≤ ics j ∧ ics j < 20) (hx : -2147483648 ≤ x ∧ x < 2147483648) (hu : -2147483648 ≤ u ∧ u < 2147483648) : HC G l yX0_caseCovers wsX0_caseCovers 2 43 0 0 [.ref ti, .int (iI (x)), .int (iI (u))] [(ti, .inr (2, [.int (iI (((ni : Nat) : Int))), .ref o1, .ref o2, .ref o3, .ref o4, .ref o5])), (o1, cI G 20 iow), (o2, cI G 20 ilv), (o3, cI G 20 ist), (o4, cI G 20 ien), (o5, cI G 20 ics)] (rt (some (.int (iI (bI (anyN (fun k => decide (ics k = x) && covB ist ien k u) ni))))) [(ti, .inr (2, [.int (iI (((ni : Nat) : Int))), .ref o1, .ref o2, .ref o3, .ref o4, .ref o5])), (o1, cI G 20 iow), (o2, cI G 20 ilv), (o3, cI G 20 ist), (o4, cI G 20 ien), (o5, cI G 20 ics)]) := by
  refine kz_start cX0_caseCovers 4 (some .boolean) [(0, .ref ti), (1, .int (iI (x))), (2, .int (iI (u)))] hlt (by decide) rfl (Nat.le_of_ble_eq_true rfl) rfl (fun X fx rx => ?_)
  refine kz_iconst (pc := 0) fx dX0_caseCovers_0 ?_
  refine kz_istore_n (pc := 1) (lv' := [(3, .int (iI (0))), (0, .ref ti), (1, .int (iI (x))), (2, .int (iI (u)))]) fx dX0_caseCovers_1 rfl (by decide) rfl ?_
  refine KK.sub (ks := [1, 2, 3, 0]) (lv' := [(0, .ref ti), (1, .int (iI (x))), (2, .int (iI (u))), (3, .int (iI (0)))]) rfl ?_
  refine kz_loop (σ := Nat) (fun i => ni - i) (fun i => i ≤ ni ∧ anyN (fun k => decide (ics k = x) && covB ist ien k u) i = false) (fun i => KK X G [(0, .ref ti), (1, .int (iI (x))), (2, .int (iI (u))), (3, .int (iI (((i : Nat) : Int))))] [(ti, .inr (2, [.int (iI (((ni : Nat) : Int))), .ref o1, .ref o2, .ref o3, .ref o4, .ref o5])), (o1, cI G 20 iow), (o2, cI G 20 ilv), (o3, cI G 20 ist), (o4, cI G 20 ien), (o5, cI G 20 ics)] 0 0 2 []) ?_ 0 ⟨by omega, rfl⟩
  intro i hI_2 ih_2
  obtain ⟨hle_2, hno⟩ := hI_2
  show KK X G [(0, .ref ti), (1, .int (iI (x))), (2, .int (iI (u))), (3, .int (iI (((i : Nat) : Int))))] [(ti, .inr (2, [.int (iI (((ni : Nat) : Int))), .ref o1, .ref o2, .ref o3, .ref o4, .ref o5])), (o1, cI G 20 iow), (o2, cI G 20 ilv), (o3, cI G 20 ist), (o4, cI G 20 ien), (o5, cI G 20 ics)] 0 0 2 []
  refine kz_iload_n (pc := 2) fx 3 dX0_caseCovers_2 rfl ?_
  refine kz_aload_n (pc := 3) fx 0 dX0_caseCovers_3 rfl ?_
  refine kz_get (pc := 4) (ci := 2) (C := RX0) (T := TX0) (N := 6) (ref := "Statusboard$Incidents") (v := .int (iI (((ni : Nat) : Int)))) fx 0 0 rfl rfl (fun u h => List.mem_cons_of_mem _ (pu_X0 u h)) (by decide) (List.mem_cons_of_mem _ (pt_1 90 rfl rfl)) rfl rfl dX0_caseCovers_4 ?_
  refine kz_icmp_ge (pc := 7) fx 37 dX0_caseCovers_7 (by decide) ⟨by omega, by omega⟩ ⟨by omega, by omega⟩ (fun h_7 => ?_) (fun h_7 => ?_)
  · refine kz_iconst (pc := 37) fx dX0_caseCovers_37 ?_
    refine kz_zret (pc := 38) fx rx (by decide +kernel) dX0_caseCovers_38 (by decide) (by decide) ?_
    exact rt_i (by first | (rw [anyN_in (k := i) (by omega) (by simp_all)]; rfl) | (rw [show ni = i by omega, hno]; rfl)) (rfl)
  · refine kz_aload_n (pc := 10) fx 0 dX0_caseCovers_10 rfl ?_
    refine kz_get (pc := 11) (ci := 2) (C := RX0) (T := TX0) (N := 6) (ref := "Statusboard$Incidents") (v := .ref o5) fx 0 5 rfl rfl (fun u h => List.mem_cons_of_mem _ (pu_X0 u h)) (by decide) (List.mem_cons_of_mem _ (pt_1 102 rfl rfl)) rfl rfl dX0_caseCovers_11 ?_
    refine kz_iload_n (pc := 14) fx 3 dX0_caseCovers_14 rfl ?_
    refine kz_iald (pc := 15) (f := ics) fx 5 i rfl rfl (by omega) (by decide) dX0_caseCovers_15 ?_
    have r_1 := rics i
    refine kz_iload_n (pc := 16) fx 1 dX0_caseCovers_16 rfl ?_
    refine kz_icmp_ne (pc := 17) fx 31 dX0_caseCovers_17 (by decide) ⟨by omega, by omega⟩ ⟨by omega, by omega⟩ (fun h_17 => ?_) (fun h_17 => ?_)
    · refine kz_iinc (pc := 31) (k := 3) (lv' := [(3, .int (iI (((i : Nat) : Int) + 1))), (0, .ref ti), (1, .int (iI (x))), (2, .int (iI (u)))]) fx dX0_caseCovers_31 rfl (by decide) rfl ?_
      refine kz_goto (pc := 34) (tgt := 2) fx dX0_caseCovers_34 (by decide) ?_
      refine KK.sub (ks := [1, 2, 3, 0]) (lv' := [(0, .ref ti), (1, .int (iI (x))), (2, .int (iI (u))), (3, .int (iI (((i : Nat) : Int) + 1)))]) rfl ?_
      have e_2 : (((i : Nat) : Int) + 1 : Int) = ((((i + 1)) : Nat) : Int) := by rfl
      refine KK.lve (lv' := [(0, .ref ti), (1, .int (iI (x))), (2, .int (iI (u))), (3, .int (iI (((((i + 1)) : Nat) : Int))))]) (lv_k (lv_k (lv_k (lv_c e_2 rfl)))) ?_
      exact ih_2 (i + 1) ⟨by omega, anyN_ff hno (by simp_all)⟩ (by omega)
    · refine kz_aload_n (pc := 20) fx 0 dX0_caseCovers_20 rfl ?_
      refine kz_iload_n (pc := 21) fx 3 dX0_caseCovers_21 rfl ?_
      refine kz_iload_n (pc := 22) fx 2 dX0_caseCovers_22 rfl ?_
      refine kz_callV (pc := 23) (As := [.int (iI (((i : Nat) : Int))), .int (iI (u))]) (st := []) (q0 := 0) (wc := [(ti, .inr (2, [.int (iI (((ni : Nat) : Int))), .ref o1, .ref o2, .ref o3, .ref o4, .ref o5])), (o1, cI G 20 iow), (o2, cI G 20 ilv), (o3, cI G 20 ist), (o4, cI G 20 ien), (o5, cI G 20 ics)]) fx (c_covers G l hlt ti o1 o2 o3 o4 o5 ni iow ilv ist ien ics i u rist rien (by first | assumption | omega) hu) rt_ne (gu_V (pt_4 150 rfl rfl) (pt_3 5 rfl rfl) (pt_3 6 rfl rfl) (pt_1 4 rfl rfl) (pt_3 7 rfl rfl)) rfl ⟨rfl, by decide, by decide, rfl⟩ (by decide) [0, 1, 2, 3, 4, 5] (by decide) rfl rfl rfl rfl (by decide) dX0_caseCovers_23 (by decide) (by decide) (kc_rt (r := some (.int (iI (bI (covB ist ien i u))))) (w1 := [(ti, .inr (2, [.int (iI (((ni : Nat) : Int))), .ref o1, .ref o2, .ref o3, .ref o4, .ref o5])), (o1, cI G 20 iow), (o2, cI G 20 ilv), (o3, cI G 20 ist), (o4, cI G 20 ien), (o5, cI G 20 ics)]) (w' := [(ti, .inr (2, [.int (iI (((ni : Nat) : Int))), .ref o1, .ref o2, .ref o3, .ref o4, .ref o5])), (o1, cI G 20 iow), (o2, cI G 20 ilv), (o3, cI G 20 ist), (o4, cI G 20 ien), (o5, cI G 20 ics)]) (is9 := [0, 1, 2, 3, 4, 5]) (stk' := [.int (iI (bI (covB ist ien i u)))]) rfl (by decide) rfl ?_)
      refine kz_ifb_eq (pc := 26) fx 31 dX0_caseCovers_26 (by decide) (fun h_26 => ?_) (fun h_26 => ?_)
      · refine kz_iinc (pc := 31) (k := 3) (lv' := [(3, .int (iI (((i : Nat) : Int) + 1))), (0, .ref ti), (1, .int (iI (x))), (2, .int (iI (u)))]) fx dX0_caseCovers_31 rfl (by decide) rfl ?_
        refine kz_goto (pc := 34) (tgt := 2) fx dX0_caseCovers_34 (by decide) ?_
        refine KK.sub (ks := [1, 2, 3, 0]) (lv' := [(0, .ref ti), (1, .int (iI (x))), (2, .int (iI (u))), (3, .int (iI (((i : Nat) : Int) + 1)))]) rfl ?_
        have e_3 : (((i : Nat) : Int) + 1 : Int) = ((((i + 1)) : Nat) : Int) := by rfl
        refine KK.lve (lv' := [(0, .ref ti), (1, .int (iI (x))), (2, .int (iI (u))), (3, .int (iI (((((i + 1)) : Nat) : Int))))]) (lv_k (lv_k (lv_k (lv_c e_3 rfl)))) ?_
        exact ih_2 (i + 1) ⟨by omega, anyN_ff hno (by simp_all)⟩ (by omega)
      · refine kz_iconst (pc := 29) fx dX0_caseCovers_29 ?_
        refine kz_zret (pc := 30) fx rx (by decide +kernel) dX0_caseCovers_30 (by decide) (by decide) ?_
        exact rt_i (by first | (rw [anyN_in (k := i) (by omega) (by simp_all)]; rfl) | (rw [show ni = i by omega, hno]; rfl)) (rfl)
set_option maxRecDepth 100000 in
set_option maxHeartbeats 4000000 in
/-- Incidents.nextChange -/
theorem c_I_nextChange (G : GX) (l : Launch) (hlt : l.stackTraces = false) (ti : Nat) (o1 : Nat) (o2 : Nat) (o3 : Nat) (o4 : Nat) (o5 : Nat) (ni : Nat) (iow : Nat → Int) (ilv : Nat → Int) (ist : Nat → Int) (ien : Nat → Int) (ics : Nat → Int) (u : Int) (b : Int) (hni : ni ≤ 20) (rist : ∀ j, 0 ≤ ist j ∧ ist j ≤ 10000) (rien : ∀ j, -1 ≤ ien j ∧ ien j ≤ 10000) (hu : -2147483648 ≤ u ∧ u < 2147483648) (hb : -2147483648 ≤ b ∧ b < 2147483648) : HC G l yX0_nextChange wsX0_nextChange 1 22 0 0 [.ref ti, .int (iI (u)), .int (iI (b))] [(ti, .inr (2, [.int (iI (((ni : Nat) : Int))), .ref o1, .ref o2, .ref o3, .ref o4, .ref o5])), (o1, cI G 20 iow), (o2, cI G 20 ilv), (o3, cI G 20 ist), (o4, cI G 20 ien), (o5, cI G 20 ics)] (rt (some (.int (iI (ncZ ist ien u b ni)))) [(ti, .inr (2, [.int (iI (((ni : Nat) : Int))), .ref o1, .ref o2, .ref o3, .ref o4, .ref o5])), (o1, cI G 20 iow), (o2, cI G 20 ilv), (o3, cI G 20 ist), (o4, cI G 20 ien), (o5, cI G 20 ics)]) := by
  refine kz_start cX0_nextChange 5 (some .int) [(0, .ref ti), (1, .int (iI (u))), (2, .int (iI (b)))] hlt (by decide) rfl (Nat.le_of_ble_eq_true rfl) rfl (fun X fx rx => ?_)
  refine kz_iload_n (pc := 0) fx 2 dX0_nextChange_0 rfl ?_
  refine kz_istore_n (pc := 1) (lv' := [(3, .int (iI (b))), (0, .ref ti), (1, .int (iI (u))), (2, .int (iI (b)))]) fx dX0_nextChange_1 rfl (by decide) rfl ?_
  refine kz_iconst (pc := 2) fx dX0_nextChange_2 ?_
  refine kz_istore (pc := 3) (lv' := [(4, .int (iI (0))), (3, .int (iI (b))), (0, .ref ti), (1, .int (iI (u))), (2, .int (iI (b)))]) fx dX0_nextChange_3 (by decide) rfl ?_
  refine KK.sub (ks := [2, 3, 4, 1, 0]) (lv' := [(0, .ref ti), (1, .int (iI (u))), (2, .int (iI (b))), (3, .int (iI (b))), (4, .int (iI (0)))]) rfl ?_
  refine kz_loop (σ := Nat) (fun i => ni - i) (fun i => i ≤ ni) (fun i => KK X G [(0, .ref ti), (1, .int (iI (u))), (2, .int (iI (b))), (3, .int (iI (ncZ ist ien u b i))), (4, .int (iI (((i : Nat) : Int))))] [(ti, .inr (2, [.int (iI (((ni : Nat) : Int))), .ref o1, .ref o2, .ref o3, .ref o4, .ref o5])), (o1, cI G 20 iow), (o2, cI G 20 ilv), (o3, cI G 20 ist), (o4, cI G 20 ien), (o5, cI G 20 ics)] 0 0 5 []) ?_ 0 (by omega)
  intro i hI_5 ih_5
  have hle_5 : i ≤ ni := hI_5
  show KK X G [(0, .ref ti), (1, .int (iI (u))), (2, .int (iI (b))), (3, .int (iI (ncZ ist ien u b i))), (4, .int (iI (((i : Nat) : Int))))] [(ti, .inr (2, [.int (iI (((ni : Nat) : Int))), .ref o1, .ref o2, .ref o3, .ref o4, .ref o5])), (o1, cI G 20 iow), (o2, cI G 20 ilv), (o3, cI G 20 ist), (o4, cI G 20 ien), (o5, cI G 20 ics)] 0 0 5 []
  have hnc9 := ncZ_r (u := u) (ncZ_z rist) rien hb i
  refine kz_iload (pc := 5) fx 4 dX0_nextChange_5 rfl ?_
  refine kz_aload_n (pc := 7) fx 0 dX0_nextChange_7 rfl ?_
  refine kz_get (pc := 8) (ci := 2) (C := RX0) (T := TX0) (N := 6) (ref := "Statusboard$Incidents") (v := .int (iI (((ni : Nat) : Int)))) fx 0 0 rfl rfl (fun u h => List.mem_cons_of_mem _ (pu_X0 u h)) (by decide) (List.mem_cons_of_mem _ (pt_1 90 rfl rfl)) rfl rfl dX0_nextChange_8 ?_
  refine kz_icmp_ge (pc := 11) fx 46 dX0_nextChange_11 (by decide) ⟨by omega, by omega⟩ ⟨by omega, by omega⟩ (fun h_11 => ?_) (fun h_11 => ?_)
  · refine kz_iload_n (pc := 46) fx 3 dX0_nextChange_46 rfl ?_
    refine kz_iret (pc := 47) fx rx dX0_nextChange_47 (by decide) (by decide) ?_
    exact rt_i (by rw [show i = ni by omega]) (rfl)
  · refine kz_iload_n (pc := 14) fx 1 dX0_nextChange_14 rfl ?_
    refine kz_iload_n (pc := 15) fx 3 dX0_nextChange_15 rfl ?_
    refine kz_aload_n (pc := 16) fx 0 dX0_nextChange_16 rfl ?_
    refine kz_get (pc := 17) (ci := 2) (C := RX0) (T := TX0) (N := 6) (ref := "Statusboard$Incidents") (v := .ref o3) fx 0 3 rfl rfl (fun u h => List.mem_cons_of_mem _ (pu_X0 u h)) (by decide) (List.mem_cons_of_mem _ (pt_1 98 rfl rfl)) rfl rfl dX0_nextChange_17 ?_
    refine kz_iload (pc := 20) fx 4 dX0_nextChange_20 rfl ?_
    refine kz_iald (pc := 22) (f := ist) fx 3 i rfl rfl (by omega) (by decide) dX0_nextChange_22 ?_
    have r_1 := rist i
    refine kz_callN (pc := 23) (As := [.int (iI (u)), .int (iI (ncZ ist ien u b i)), .int (iI (ist i))]) (st := []) (wc := []) fx (c_nearer G l hlt u (ncZ ist ien u b i) (ist i) hu (by first | assumption | omega) (by first | assumption | omega)) rt_ne (gu_N (pt_4 46 rfl rfl)) rfl (by decide +kernel) (List.mem_cons_of_mem _ (pt_1 1 rfl rfl)) (List.mem_cons_of_mem _ (pt_4 45 rfl rfl)) ⟨by decide, by decide, rfl⟩ (by decide) [] (by decide) rfl rfl (by decide) dX0_nextChange_23 (by decide) (by decide) (kc_rt (r := some (.int (iI (nrr u (ncZ ist ien u b i) (ist i))))) (w1 := []) (w' := [(ti, .inr (2, [.int (iI (((ni : Nat) : Int))), .ref o1, .ref o2, .ref o3, .ref o4, .ref o5])), (o1, cI G 20 iow), (o2, cI G 20 ilv), (o3, cI G 20 ist), (o4, cI G 20 ien), (o5, cI G 20 ics)]) (is9 := [0, 1, 2, 3, 4, 5]) (stk' := [.int (iI (nrr u (ncZ ist ien u b i) (ist i)))]) rfl (by decide) rfl ?_)
    have f_2 : -2147483648 ≤ nrr u (ncZ ist ien u b i) (ist i) ∧ nrr u (ncZ ist ien u b i) (ist i) < 2147483648 := nrr_r ⟨by omega, by omega⟩ ⟨by omega, by omega⟩
    refine kz_istore_n (pc := 26) (lv' := [(3, .int (iI (nrr u (ncZ ist ien u b i) (ist i)))), (0, .ref ti), (1, .int (iI (u))), (2, .int (iI (b))), (4, .int (iI (((i : Nat) : Int))))]) fx dX0_nextChange_26 rfl (by decide) rfl ?_
    refine kz_iload_n (pc := 27) fx 2 dX0_nextChange_27 rfl ?_
    refine kz_iload_n (pc := 28) fx 0 dX0_nextChange_28 rfl ?_
    refine kz_aload_n (pc := 29) fx 1 dX0_nextChange_29 rfl ?_
    refine kz_get (pc := 30) (ci := 2) (C := RX0) (T := TX0) (N := 6) (ref := "Statusboard$Incidents") (v := .ref o4) fx 0 4 rfl rfl (fun u h => List.mem_cons_of_mem _ (pu_X0 u h)) (by decide) (List.mem_cons_of_mem _ (pt_1 100 rfl rfl)) rfl rfl dX0_nextChange_30 ?_
    refine kz_iload (pc := 33) fx 4 dX0_nextChange_33 rfl ?_
    refine kz_iald (pc := 35) (f := ien) fx 4 i rfl rfl (by omega) (by decide) dX0_nextChange_35 ?_
    have r_3 := rien i
    refine kz_callN (pc := 36) (As := [.int (iI (u)), .int (iI (nrr u (ncZ ist ien u b i) (ist i))), .int (iI (ien i))]) (st := []) (wc := []) fx (c_nearer G l hlt u (nrr u (ncZ ist ien u b i) (ist i)) (ien i) hu (by first | assumption | omega) (by first | assumption | omega)) rt_ne (gu_N (pt_4 46 rfl rfl)) rfl (by decide +kernel) (List.mem_cons_of_mem _ (pt_1 1 rfl rfl)) (List.mem_cons_of_mem _ (pt_4 45 rfl rfl)) ⟨by decide, by decide, rfl⟩ (by decide) [] (by decide) rfl rfl (by decide) dX0_nextChange_36 (by decide) (by decide) (kc_rt (r := some (.int (iI (nrr u (nrr u (ncZ ist ien u b i) (ist i)) (ien i))))) (w1 := []) (w' := [(ti, .inr (2, [.int (iI (((ni : Nat) : Int))), .ref o1, .ref o2, .ref o3, .ref o4, .ref o5])), (o1, cI G 20 iow), (o2, cI G 20 ilv), (o3, cI G 20 ist), (o4, cI G 20 ien), (o5, cI G 20 ics)]) (is9 := [0, 1, 2, 3, 4, 5]) (stk' := [.int (iI (nrr u (nrr u (ncZ ist ien u b i) (ist i)) (ien i)))]) rfl (by decide) rfl ?_)
    have f_4 : -2147483648 ≤ nrr u (nrr u (ncZ ist ien u b i) (ist i)) (ien i) ∧ nrr u (nrr u (ncZ ist ien u b i) (ist i)) (ien i) < 2147483648 := nrr_r ⟨by omega, by omega⟩ ⟨by omega, by omega⟩
    refine kz_istore_n (pc := 39) (lv' := [(3, .int (iI (nrr u (nrr u (ncZ ist ien u b i) (ist i)) (ien i)))), (0, .ref ti), (1, .int (iI (u))), (2, .int (iI (b))), (4, .int (iI (((i : Nat) : Int))))]) fx dX0_nextChange_39 rfl (by decide) rfl ?_
    refine kz_iinc (pc := 40) (k := 4) (lv' := [(4, .int (iI (((i : Nat) : Int) + 1))), (3, .int (iI (nrr u (nrr u (ncZ ist ien u b i) (ist i)) (ien i)))), (0, .ref ti), (1, .int (iI (u))), (2, .int (iI (b)))]) fx dX0_nextChange_40 rfl (by decide) rfl ?_
    refine kz_goto (pc := 43) (tgt := 5) fx dX0_nextChange_43 (by decide) ?_
    refine KK.sub (ks := [2, 3, 4, 1, 0]) (lv' := [(0, .ref ti), (1, .int (iI (u))), (2, .int (iI (b))), (3, .int (iI (nrr u (nrr u (ncZ ist ien u b i) (ist i)) (ien i)))), (4, .int (iI (((i : Nat) : Int) + 1)))]) rfl ?_
    have e_5 : (nrr u (nrr u (ncZ ist ien u b i) (ist i)) (ien i) : Int) = ncZ ist ien u b ((i + 1)) := by rfl
    have e_6 : (((i : Nat) : Int) + 1 : Int) = ((((i + 1)) : Nat) : Int) := by rfl
    refine KK.lve (lv' := [(0, .ref ti), (1, .int (iI (u))), (2, .int (iI (b))), (3, .int (iI (ncZ ist ien u b ((i + 1))))), (4, .int (iI (((((i + 1)) : Nat) : Int))))]) (lv_k (lv_k (lv_k (lv_c e_5 (lv_c e_6 rfl))))) ?_
    exact ih_5 (i + 1) (by omega) (by omega)
set_option maxRecDepth 100000 in
set_option maxHeartbeats 4000000 in
/-- excuses -/
theorem c_excuses (G : GX) (l : Launch) (hlt : l.stackTraces = false) (tm : Nat) (m1 : Nat) (m2 : Nat) (m3 : Nat) (nt : Nat) (mkp : Nat → Int) (mfr : Nat → Int) (mto : Nat → Int) (n : Nat) (u : Int) (hnt : nt ≤ 8) (rmkp : ∀ j, 0 ≤ mkp j ∧ mkp j < 12) (rmfr : ∀ j, 0 ≤ mfr j ∧ mfr j ≤ 10000) (rmto : ∀ j, 0 ≤ mto j ∧ mto j ≤ 10000) (hn : n < 4096) (hu : -2147483648 ≤ u ∧ u < 2147483648) : HC G l yX3_excuses wsX3_excuses 1 21 0 0 [.ref tm, .int (iI (((n : Nat) : Int))), .int (iI (u))] [(tm, .inr (5, [.int (iI (((nt : Nat) : Int))), .ref m1, .ref m2, .ref m3])), (m1, cI G 8 mkp), (m2, cI G 8 mfr), (m3, cI G 8 mto)] (rt (some (.int (iI (bI (anyN (excB mkp mfr mto n u) nt))))) [(tm, .inr (5, [.int (iI (((nt : Nat) : Int))), .ref m1, .ref m2, .ref m3])), (m1, cI G 8 mkp), (m2, cI G 8 mfr), (m3, cI G 8 mto)]) := by
  refine kz_start cX3_excuses 4 (some .boolean) [(0, .ref tm), (1, .int (iI (((n : Nat) : Int)))), (2, .int (iI (u)))] hlt (by decide) rfl (Nat.le_of_ble_eq_true rfl) rfl (fun X fx rx => ?_)
  refine kz_iconst (pc := 0) fx dX3_excuses_0 ?_
  refine kz_istore_n (pc := 1) (lv' := [(3, .int (iI (0))), (0, .ref tm), (1, .int (iI (((n : Nat) : Int)))), (2, .int (iI (u)))]) fx dX3_excuses_1 rfl (by decide) rfl ?_
  refine KK.sub (ks := [1, 2, 3, 0]) (lv' := [(0, .ref tm), (1, .int (iI (((n : Nat) : Int)))), (2, .int (iI (u))), (3, .int (iI (0)))]) rfl ?_
  refine kz_loop (σ := Nat) (fun i => nt - i) (fun i => i ≤ nt ∧ anyN (excB mkp mfr mto n u) i = false) (fun i => KK X G [(0, .ref tm), (1, .int (iI (((n : Nat) : Int)))), (2, .int (iI (u))), (3, .int (iI (((i : Nat) : Int))))] [(tm, .inr (5, [.int (iI (((nt : Nat) : Int))), .ref m1, .ref m2, .ref m3])), (m1, cI G 8 mkp), (m2, cI G 8 mfr), (m3, cI G 8 mto)] 0 0 2 []) ?_ 0 ⟨by omega, rfl⟩
  intro i hI_2 ih_2
  obtain ⟨hle_2, hno⟩ := hI_2
  show KK X G [(0, .ref tm), (1, .int (iI (((n : Nat) : Int)))), (2, .int (iI (u))), (3, .int (iI (((i : Nat) : Int))))] [(tm, .inr (5, [.int (iI (((nt : Nat) : Int))), .ref m1, .ref m2, .ref m3])), (m1, cI G 8 mkp), (m2, cI G 8 mfr), (m3, cI G 8 mto)] 0 0 2 []
  refine kz_iload_n (pc := 2) fx 3 dX3_excuses_2 rfl ?_
  refine kz_aload_n (pc := 3) fx 0 dX3_excuses_3 rfl ?_
  refine kz_get (pc := 4) (ci := 5) (C := RX3) (T := TX3) (N := 4) (ref := "Statusboard$Maintenance") (v := .int (iI (((nt : Nat) : Int)))) fx 0 0 rfl rfl (fun u h => List.mem_cons_of_mem _ (pu_X3 u h)) (by decide) (List.mem_cons_of_mem _ (pt_1 123 rfl rfl)) rfl rfl dX3_excuses_4 ?_
  refine kz_icmp_ge (pc := 7) fx 51 dX3_excuses_7 (by decide) ⟨by omega, by omega⟩ ⟨by omega, by omega⟩ (fun h_7 => ?_) (fun h_7 => ?_)
  · refine kz_iconst (pc := 51) fx dX3_excuses_51 ?_
    refine kz_zret (pc := 52) fx rx (by decide +kernel) dX3_excuses_52 (by decide) (by decide) ?_
    exact rt_i (by first | (rw [anyN_in (k := i) (by omega) (excB_t (by omega) (by omega) (by assumption))]; rfl) | (rw [show nt = i by omega, hno]; rfl)) (rfl)
  · refine kz_aload_n (pc := 10) fx 0 dX3_excuses_10 rfl ?_
    refine kz_get (pc := 11) (ci := 5) (C := RX3) (T := TX3) (N := 4) (ref := "Statusboard$Maintenance") (v := .ref m2) fx 0 2 rfl rfl (fun u h => List.mem_cons_of_mem _ (pu_X3 u h)) (by decide) (List.mem_cons_of_mem _ (pt_1 126 rfl rfl)) rfl rfl dX3_excuses_11 ?_
    refine kz_iload_n (pc := 14) fx 3 dX3_excuses_14 rfl ?_
    refine kz_iald (pc := 15) (f := mfr) fx 2 i rfl rfl (by omega) (by decide) dX3_excuses_15 ?_
    have r_1 := rmfr i
    refine kz_iload_n (pc := 16) fx 2 dX3_excuses_16 rfl ?_
    refine kz_icmp_gt (pc := 17) fx 45 dX3_excuses_17 (by decide) ⟨by omega, by omega⟩ ⟨by omega, by omega⟩ (fun h_17 => ?_) (fun h_17 => ?_)
    · refine kz_iinc (pc := 45) (k := 3) (lv' := [(3, .int (iI (((i : Nat) : Int) + 1))), (0, .ref tm), (1, .int (iI (((n : Nat) : Int)))), (2, .int (iI (u)))]) fx dX3_excuses_45 rfl (by decide) rfl ?_
      refine kz_goto (pc := 48) (tgt := 2) fx dX3_excuses_48 (by decide) ?_
      refine KK.sub (ks := [1, 2, 3, 0]) (lv' := [(0, .ref tm), (1, .int (iI (((n : Nat) : Int)))), (2, .int (iI (u))), (3, .int (iI (((i : Nat) : Int) + 1)))]) rfl ?_
      have e_2 : (((i : Nat) : Int) + 1 : Int) = ((((i + 1)) : Nat) : Int) := by rfl
      refine KK.lve (lv' := [(0, .ref tm), (1, .int (iI (((n : Nat) : Int)))), (2, .int (iI (u))), (3, .int (iI (((((i + 1)) : Nat) : Int))))]) (lv_k (lv_k (lv_k (lv_c e_2 rfl)))) ?_
      exact ih_2 (i + 1) ⟨by omega, anyN_ff hno (by first | exact excB_1 (by omega) | exact excB_2 (by omega) | exact excB_3 (by assumption))⟩ (by omega)
    · refine kz_iload_n (pc := 20) fx 2 dX3_excuses_20 rfl ?_
      refine kz_aload_n (pc := 21) fx 0 dX3_excuses_21 rfl ?_
      refine kz_get (pc := 22) (ci := 5) (C := RX3) (T := TX3) (N := 4) (ref := "Statusboard$Maintenance") (v := .ref m3) fx 0 3 rfl rfl (fun u h => List.mem_cons_of_mem _ (pu_X3 u h)) (by decide) (List.mem_cons_of_mem _ (pt_1 128 rfl rfl)) rfl rfl dX3_excuses_22 ?_
      refine kz_iload_n (pc := 25) fx 3 dX3_excuses_25 rfl ?_
      refine kz_iald (pc := 26) (f := mto) fx 3 i rfl rfl (by omega) (by decide) dX3_excuses_26 ?_
      have r_3 := rmto i
      refine kz_icmp_ge (pc := 27) fx 45 dX3_excuses_27 (by decide) ⟨by omega, by omega⟩ ⟨by omega, by omega⟩ (fun h_27 => ?_) (fun h_27 => ?_)
      · refine kz_iinc (pc := 45) (k := 3) (lv' := [(3, .int (iI (((i : Nat) : Int) + 1))), (0, .ref tm), (1, .int (iI (((n : Nat) : Int)))), (2, .int (iI (u)))]) fx dX3_excuses_45 rfl (by decide) rfl ?_
        refine kz_goto (pc := 48) (tgt := 2) fx dX3_excuses_48 (by decide) ?_
        refine KK.sub (ks := [1, 2, 3, 0]) (lv' := [(0, .ref tm), (1, .int (iI (((n : Nat) : Int)))), (2, .int (iI (u))), (3, .int (iI (((i : Nat) : Int) + 1)))]) rfl ?_
        have e_4 : (((i : Nat) : Int) + 1 : Int) = ((((i + 1)) : Nat) : Int) := by rfl
        refine KK.lve (lv' := [(0, .ref tm), (1, .int (iI (((n : Nat) : Int)))), (2, .int (iI (u))), (3, .int (iI (((((i + 1)) : Nat) : Int))))]) (lv_k (lv_k (lv_k (lv_c e_4 rfl)))) ?_
        exact ih_2 (i + 1) ⟨by omega, anyN_ff hno (by first | exact excB_1 (by omega) | exact excB_2 (by omega) | exact excB_3 (by assumption))⟩ (by omega)
      · refine kz_iload_n (pc := 30) fx 1 dX3_excuses_30 rfl ?_
        refine kz_aload_n (pc := 31) fx 0 dX3_excuses_31 rfl ?_
        refine kz_get (pc := 32) (ci := 5) (C := RX3) (T := TX3) (N := 4) (ref := "Statusboard$Maintenance") (v := .ref m1) fx 0 1 rfl rfl (fun u h => List.mem_cons_of_mem _ (pu_X3 u h)) (by decide) (List.mem_cons_of_mem _ (pt_1 125 rfl rfl)) rfl rfl dX3_excuses_32 ?_
        refine kz_iload_n (pc := 35) fx 3 dX3_excuses_35 rfl ?_
        refine kz_iald (pc := 36) (f := mkp) fx 1 i rfl rfl (by omega) (by decide) dX3_excuses_36 ?_
        have r_5 := rmkp i
        have ct_6 : mkp i = ((((mkp i).toNat) : Nat) : Int) := by omega
        rw [ct_6]
        refine kz_callS (pc := 37) (As := [.int (iI (((n : Nat) : Int))), .int (iI (((((mkp i).toNat) : Nat) : Int)))]) (st := []) (wc := []) fx (c_holds G l hlt n ((mkp i).toNat) hn (by first | assumption | omega)) rt_ne (gu_S (pt_3 47 rfl rfl) (pt_2 146 rfl rfl) (pt_1 2 rfl rfl) (pt_2 147 rfl rfl)) rfl ⟨by decide, by decide, rfl⟩ (by decide) [] (by decide) rfl rfl (by decide) dX3_excuses_37 (by decide) (by decide) (kc_rt (r := some (.int (iI (bI (n.testBit (((mkp i).toNat))))))) (w1 := []) (w' := [(tm, .inr (5, [.int (iI (((nt : Nat) : Int))), .ref m1, .ref m2, .ref m3])), (m1, cI G 8 mkp), (m2, cI G 8 mfr), (m3, cI G 8 mto)]) (is9 := [0, 1, 2, 3]) (stk' := [.int (iI (bI (n.testBit (((mkp i).toNat)))))]) rfl (by decide) rfl ?_)
        refine kz_ifb_eq (pc := 40) fx 45 dX3_excuses_40 (by decide) (fun h_40 => ?_) (fun h_40 => ?_)
        · refine kz_iinc (pc := 45) (k := 3) (lv' := [(3, .int (iI (((i : Nat) : Int) + 1))), (0, .ref tm), (1, .int (iI (((n : Nat) : Int)))), (2, .int (iI (u)))]) fx dX3_excuses_45 rfl (by decide) rfl ?_
          refine kz_goto (pc := 48) (tgt := 2) fx dX3_excuses_48 (by decide) ?_
          refine KK.sub (ks := [1, 2, 3, 0]) (lv' := [(0, .ref tm), (1, .int (iI (((n : Nat) : Int)))), (2, .int (iI (u))), (3, .int (iI (((i : Nat) : Int) + 1)))]) rfl ?_
          have e_7 : (((i : Nat) : Int) + 1 : Int) = ((((i + 1)) : Nat) : Int) := by rfl
          refine KK.lve (lv' := [(0, .ref tm), (1, .int (iI (((n : Nat) : Int)))), (2, .int (iI (u))), (3, .int (iI (((((i + 1)) : Nat) : Int))))]) (lv_k (lv_k (lv_k (lv_c e_7 rfl)))) ?_
          exact ih_2 (i + 1) ⟨by omega, anyN_ff hno (by first | exact excB_1 (by omega) | exact excB_2 (by omega) | exact excB_3 (by assumption))⟩ (by omega)
        · refine kz_iconst (pc := 43) fx dX3_excuses_43 ?_
          refine kz_zret (pc := 44) fx rx (by decide +kernel) dX3_excuses_44 (by decide) (by decide) ?_
          exact rt_i (by first | (rw [anyN_in (k := i) (by omega) (excB_t (by omega) (by omega) (by assumption))]; rfl) | (rw [show nt = i by omega, hno]; rfl)) (rfl)
set_option maxRecDepth 100000 in
set_option maxHeartbeats 4000000 in
/-- Maintenance.nextChange -/
theorem c_M_nextChange (G : GX) (l : Launch) (hlt : l.stackTraces = false) (tm : Nat) (m1 : Nat) (m2 : Nat) (m3 : Nat) (nt : Nat) (mkp : Nat → Int) (mfr : Nat → Int) (mto : Nat → Int) (u : Int) (b : Int) (hnt : nt ≤ 8) (rmfr : ∀ j, 0 ≤ mfr j ∧ mfr j ≤ 10000) (rmto : ∀ j, 0 ≤ mto j ∧ mto j ≤ 10000) (hu : -2147483648 ≤ u ∧ u < 2147483648) (hb : -2147483648 ≤ b ∧ b < 2147483648) : HC G l yX3_nextChange wsX3_nextChange 1 22 0 0 [.ref tm, .int (iI (u)), .int (iI (b))] [(tm, .inr (5, [.int (iI (((nt : Nat) : Int))), .ref m1, .ref m2, .ref m3])), (m1, cI G 8 mkp), (m2, cI G 8 mfr), (m3, cI G 8 mto)] (rt (some (.int (iI (ncZ mfr mto u b nt)))) [(tm, .inr (5, [.int (iI (((nt : Nat) : Int))), .ref m1, .ref m2, .ref m3])), (m1, cI G 8 mkp), (m2, cI G 8 mfr), (m3, cI G 8 mto)]) := by
  refine kz_start cX3_nextChange 5 (some .int) [(0, .ref tm), (1, .int (iI (u))), (2, .int (iI (b)))] hlt (by decide) rfl (Nat.le_of_ble_eq_true rfl) rfl (fun X fx rx => ?_)
  refine kz_iload_n (pc := 0) fx 2 dX3_nextChange_0 rfl ?_
  refine kz_istore_n (pc := 1) (lv' := [(3, .int (iI (b))), (0, .ref tm), (1, .int (iI (u))), (2, .int (iI (b)))]) fx dX3_nextChange_1 rfl (by decide) rfl ?_
  refine kz_iconst (pc := 2) fx dX3_nextChange_2 ?_
  refine kz_istore (pc := 3) (lv' := [(4, .int (iI (0))), (3, .int (iI (b))), (0, .ref tm), (1, .int (iI (u))), (2, .int (iI (b)))]) fx dX3_nextChange_3 (by decide) rfl ?_
  refine KK.sub (ks := [2, 3, 4, 1, 0]) (lv' := [(0, .ref tm), (1, .int (iI (u))), (2, .int (iI (b))), (3, .int (iI (b))), (4, .int (iI (0)))]) rfl ?_
  refine kz_loop (σ := Nat) (fun i => nt - i) (fun i => i ≤ nt) (fun i => KK X G [(0, .ref tm), (1, .int (iI (u))), (2, .int (iI (b))), (3, .int (iI (ncZ mfr mto u b i))), (4, .int (iI (((i : Nat) : Int))))] [(tm, .inr (5, [.int (iI (((nt : Nat) : Int))), .ref m1, .ref m2, .ref m3])), (m1, cI G 8 mkp), (m2, cI G 8 mfr), (m3, cI G 8 mto)] 0 0 5 []) ?_ 0 (by omega)
  intro i hI_5 ih_5
  have hle_5 : i ≤ nt := hI_5
  show KK X G [(0, .ref tm), (1, .int (iI (u))), (2, .int (iI (b))), (3, .int (iI (ncZ mfr mto u b i))), (4, .int (iI (((i : Nat) : Int))))] [(tm, .inr (5, [.int (iI (((nt : Nat) : Int))), .ref m1, .ref m2, .ref m3])), (m1, cI G 8 mkp), (m2, cI G 8 mfr), (m3, cI G 8 mto)] 0 0 5 []
  have hnc9 := ncZ_r (u := u) (ncZ_z rmfr) (ncZ_z rmto) hb i
  refine kz_iload (pc := 5) fx 4 dX3_nextChange_5 rfl ?_
  refine kz_aload_n (pc := 7) fx 0 dX3_nextChange_7 rfl ?_
  refine kz_get (pc := 8) (ci := 5) (C := RX3) (T := TX3) (N := 4) (ref := "Statusboard$Maintenance") (v := .int (iI (((nt : Nat) : Int)))) fx 0 0 rfl rfl (fun u h => List.mem_cons_of_mem _ (pu_X3 u h)) (by decide) (List.mem_cons_of_mem _ (pt_1 123 rfl rfl)) rfl rfl dX3_nextChange_8 ?_
  refine kz_icmp_ge (pc := 11) fx 46 dX3_nextChange_11 (by decide) ⟨by omega, by omega⟩ ⟨by omega, by omega⟩ (fun h_11 => ?_) (fun h_11 => ?_)
  · refine kz_iload_n (pc := 46) fx 3 dX3_nextChange_46 rfl ?_
    refine kz_iret (pc := 47) fx rx dX3_nextChange_47 (by decide) (by decide) ?_
    exact rt_i (by rw [show i = nt by omega]) (rfl)
  · refine kz_iload_n (pc := 14) fx 1 dX3_nextChange_14 rfl ?_
    refine kz_iload_n (pc := 15) fx 3 dX3_nextChange_15 rfl ?_
    refine kz_aload_n (pc := 16) fx 0 dX3_nextChange_16 rfl ?_
    refine kz_get (pc := 17) (ci := 5) (C := RX3) (T := TX3) (N := 4) (ref := "Statusboard$Maintenance") (v := .ref m2) fx 0 2 rfl rfl (fun u h => List.mem_cons_of_mem _ (pu_X3 u h)) (by decide) (List.mem_cons_of_mem _ (pt_1 126 rfl rfl)) rfl rfl dX3_nextChange_17 ?_
    refine kz_iload (pc := 20) fx 4 dX3_nextChange_20 rfl ?_
    refine kz_iald (pc := 22) (f := mfr) fx 2 i rfl rfl (by omega) (by decide) dX3_nextChange_22 ?_
    have r_1 := rmfr i
    refine kz_callN (pc := 23) (As := [.int (iI (u)), .int (iI (ncZ mfr mto u b i)), .int (iI (mfr i))]) (st := []) (wc := []) fx (c_nearer G l hlt u (ncZ mfr mto u b i) (mfr i) hu (by first | assumption | omega) (by first | assumption | omega)) rt_ne (gu_N (pt_4 46 rfl rfl)) rfl (by decide +kernel) (List.mem_cons_of_mem _ (pt_1 1 rfl rfl)) (List.mem_cons_of_mem _ (pt_4 45 rfl rfl)) ⟨by decide, by decide, rfl⟩ (by decide) [] (by decide) rfl rfl (by decide) dX3_nextChange_23 (by decide) (by decide) (kc_rt (r := some (.int (iI (nrr u (ncZ mfr mto u b i) (mfr i))))) (w1 := []) (w' := [(tm, .inr (5, [.int (iI (((nt : Nat) : Int))), .ref m1, .ref m2, .ref m3])), (m1, cI G 8 mkp), (m2, cI G 8 mfr), (m3, cI G 8 mto)]) (is9 := [0, 1, 2, 3]) (stk' := [.int (iI (nrr u (ncZ mfr mto u b i) (mfr i)))]) rfl (by decide) rfl ?_)
    have f_2 : -2147483648 ≤ nrr u (ncZ mfr mto u b i) (mfr i) ∧ nrr u (ncZ mfr mto u b i) (mfr i) < 2147483648 := nrr_r ⟨by omega, by omega⟩ ⟨by omega, by omega⟩
    refine kz_istore_n (pc := 26) (lv' := [(3, .int (iI (nrr u (ncZ mfr mto u b i) (mfr i)))), (0, .ref tm), (1, .int (iI (u))), (2, .int (iI (b))), (4, .int (iI (((i : Nat) : Int))))]) fx dX3_nextChange_26 rfl (by decide) rfl ?_
    refine kz_iload_n (pc := 27) fx 2 dX3_nextChange_27 rfl ?_
    refine kz_iload_n (pc := 28) fx 0 dX3_nextChange_28 rfl ?_
    refine kz_aload_n (pc := 29) fx 1 dX3_nextChange_29 rfl ?_
    refine kz_get (pc := 30) (ci := 5) (C := RX3) (T := TX3) (N := 4) (ref := "Statusboard$Maintenance") (v := .ref m3) fx 0 3 rfl rfl (fun u h => List.mem_cons_of_mem _ (pu_X3 u h)) (by decide) (List.mem_cons_of_mem _ (pt_1 128 rfl rfl)) rfl rfl dX3_nextChange_30 ?_
    refine kz_iload (pc := 33) fx 4 dX3_nextChange_33 rfl ?_
    refine kz_iald (pc := 35) (f := mto) fx 3 i rfl rfl (by omega) (by decide) dX3_nextChange_35 ?_
    have r_3 := rmto i
    refine kz_callN (pc := 36) (As := [.int (iI (u)), .int (iI (nrr u (ncZ mfr mto u b i) (mfr i))), .int (iI (mto i))]) (st := []) (wc := []) fx (c_nearer G l hlt u (nrr u (ncZ mfr mto u b i) (mfr i)) (mto i) hu (by first | assumption | omega) (by first | assumption | omega)) rt_ne (gu_N (pt_4 46 rfl rfl)) rfl (by decide +kernel) (List.mem_cons_of_mem _ (pt_1 1 rfl rfl)) (List.mem_cons_of_mem _ (pt_4 45 rfl rfl)) ⟨by decide, by decide, rfl⟩ (by decide) [] (by decide) rfl rfl (by decide) dX3_nextChange_36 (by decide) (by decide) (kc_rt (r := some (.int (iI (nrr u (nrr u (ncZ mfr mto u b i) (mfr i)) (mto i))))) (w1 := []) (w' := [(tm, .inr (5, [.int (iI (((nt : Nat) : Int))), .ref m1, .ref m2, .ref m3])), (m1, cI G 8 mkp), (m2, cI G 8 mfr), (m3, cI G 8 mto)]) (is9 := [0, 1, 2, 3]) (stk' := [.int (iI (nrr u (nrr u (ncZ mfr mto u b i) (mfr i)) (mto i)))]) rfl (by decide) rfl ?_)
    have f_4 : -2147483648 ≤ nrr u (nrr u (ncZ mfr mto u b i) (mfr i)) (mto i) ∧ nrr u (nrr u (ncZ mfr mto u b i) (mfr i)) (mto i) < 2147483648 := nrr_r ⟨by omega, by omega⟩ ⟨by omega, by omega⟩
    refine kz_istore_n (pc := 39) (lv' := [(3, .int (iI (nrr u (nrr u (ncZ mfr mto u b i) (mfr i)) (mto i)))), (0, .ref tm), (1, .int (iI (u))), (2, .int (iI (b))), (4, .int (iI (((i : Nat) : Int))))]) fx dX3_nextChange_39 rfl (by decide) rfl ?_
    refine kz_iinc (pc := 40) (k := 4) (lv' := [(4, .int (iI (((i : Nat) : Int) + 1))), (3, .int (iI (nrr u (nrr u (ncZ mfr mto u b i) (mfr i)) (mto i)))), (0, .ref tm), (1, .int (iI (u))), (2, .int (iI (b)))]) fx dX3_nextChange_40 rfl (by decide) rfl ?_
    refine kz_goto (pc := 43) (tgt := 5) fx dX3_nextChange_43 (by decide) ?_
    refine KK.sub (ks := [2, 3, 4, 1, 0]) (lv' := [(0, .ref tm), (1, .int (iI (u))), (2, .int (iI (b))), (3, .int (iI (nrr u (nrr u (ncZ mfr mto u b i) (mfr i)) (mto i)))), (4, .int (iI (((i : Nat) : Int) + 1)))]) rfl ?_
    have e_5 : (nrr u (nrr u (ncZ mfr mto u b i) (mfr i)) (mto i) : Int) = ncZ mfr mto u b ((i + 1)) := by rfl
    have e_6 : (((i : Nat) : Int) + 1 : Int) = ((((i + 1)) : Nat) : Int) := by rfl
    refine KK.lve (lv' := [(0, .ref tm), (1, .int (iI (u))), (2, .int (iI (b))), (3, .int (iI (ncZ mfr mto u b ((i + 1))))), (4, .int (iI (((((i + 1)) : Nat) : Int))))]) (lv_k (lv_k (lv_k (lv_c e_5 (lv_c e_6 rfl))))) ?_
    exact ih_5 (i + 1) (by omega) (by omega)
set_option maxRecDepth 100000 in
set_option maxHeartbeats 4000000 in
/-- follows -/
theorem c_follows (G : GX) (l : Launch) (hlt : l.stackTraces = false) (tp : Nat) (p1 : Nat) (p2 : Nat) (np : Nat) (ple : Nat → Int) (pfo : Nat → Nat) (i : Nat) (c : Nat) (rpfo : ∀ j, pfo j < 4096) (hi : i < 6) (hc : c < 12) : HC G l yX4_follows wsX4_follows 1 21 0 0 [.ref tp, .int (iI (((i : Nat) : Int))), .int (iI (((c : Nat) : Int)))] [(tp, .inr (6, [.int (iI (((np : Nat) : Int))), .ref p1, .ref p2])), (p1, cI G 6 ple), (p2, cI G 6 (nz pfo))] (rt (some (.int (iI (bI ((pfo i).testBit c))))) [(tp, .inr (6, [.int (iI (((np : Nat) : Int))), .ref p1, .ref p2])), (p1, cI G 6 ple), (p2, cI G 6 (nz pfo))]) := by
  refine kz_start cX4_follows 3 (some .boolean) [(0, .ref tp), (1, .int (iI (((i : Nat) : Int)))), (2, .int (iI (((c : Nat) : Int))))] hlt (by decide) rfl (Nat.le_of_ble_eq_true rfl) rfl (fun X fx rx => ?_)
  refine kz_aload_n (pc := 0) fx 0 dX4_follows_0 rfl ?_
  refine kz_get (pc := 1) (ci := 6) (C := RX4) (T := TX4) (N := 3) (ref := "Statusboard$Persons") (v := .ref p2) fx 0 2 rfl rfl (fun u h => List.mem_cons_of_mem _ (pu_X4 u h)) (by decide) (List.mem_cons_of_mem _ (pt_1 76 rfl rfl)) rfl rfl dX4_follows_1 ?_
  refine kz_iload_n (pc := 4) fx 1 dX4_follows_4 rfl ?_
  refine kz_iald (pc := 5) (f := nz pfo) fx 2 i rfl rfl (by omega) (by decide) dX4_follows_5 ?_
  have r_1 := rpfo i
  refine kz_iload_n (pc := 6) fx 2 dX4_follows_6 rfl ?_
  refine kz_callS (pc := 7) (As := [.int (iI (((pfo i : Nat) : Int))), .int (iI (((c : Nat) : Int)))]) (st := []) (wc := []) fx (c_holds G l hlt (pfo i) c (by first | assumption | omega) hc) rt_ne (gu_S (pt_2 187 rfl rfl) (pt_2 146 rfl rfl) (pt_1 2 rfl rfl) (pt_2 147 rfl rfl)) rfl ⟨by decide, by decide, rfl⟩ (by decide) [] (by decide) rfl rfl (by decide) dX4_follows_7 (by decide) (by decide) (kc_rt (r := some (.int (iI (bI ((pfo i).testBit c))))) (w1 := []) (w' := [(tp, .inr (6, [.int (iI (((np : Nat) : Int))), .ref p1, .ref p2])), (p1, cI G 6 ple), (p2, cI G 6 (nz pfo))]) (is9 := [0, 1, 2]) (stk' := [.int (iI (bI ((pfo i).testBit c)))]) rfl (by decide) rfl ?_)
  refine kz_zret (pc := 10) fx rx (narrow_bI _) dX4_follows_10 (by decide) (by decide) ?_
  exact rt_b (by first | rfl | (simp [*]; done)) (rfl)
set_option maxRecDepth 100000 in
set_option maxHeartbeats 4000000 in
/-- Persons.count -/
theorem c_P_count (G : GX) (l : Launch) (hlt : l.stackTraces = false) (tp : Nat) (p1 : Nat) (p2 : Nat) (np : Nat) (ple : Nat → Int) (pfo : Nat → Nat) (i : Nat) (rpfo : ∀ j, pfo j < 4096) (hi : i < 6) : HC G l yX4_count wsX4_count 1 20 0 0 [.ref tp, .int (iI (((i : Nat) : Int)))] [(tp, .inr (6, [.int (iI (((np : Nat) : Int))), .ref p1, .ref p2])), (p1, cI G 6 ple), (p2, cI G 6 (nz pfo))] (rt (some (.int (iI (((pc12 (pfo i) : Nat) : Int))))) [(tp, .inr (6, [.int (iI (((np : Nat) : Int))), .ref p1, .ref p2])), (p1, cI G 6 ple), (p2, cI G 6 (nz pfo))]) := by
  refine kz_start cX4_count 2 (some .int) [(0, .ref tp), (1, .int (iI (((i : Nat) : Int))))] hlt (by decide) rfl (Nat.le_of_ble_eq_true rfl) rfl (fun X fx rx => ?_)
  refine kz_aload_n (pc := 0) fx 0 dX4_count_0 rfl ?_
  refine kz_get (pc := 1) (ci := 6) (C := RX4) (T := TX4) (N := 3) (ref := "Statusboard$Persons") (v := .ref p2) fx 0 2 rfl rfl (fun u h => List.mem_cons_of_mem _ (pu_X4 u h)) (by decide) (List.mem_cons_of_mem _ (pt_1 76 rfl rfl)) rfl rfl dX4_count_1 ?_
  refine kz_iload_n (pc := 4) fx 1 dX4_count_4 rfl ?_
  refine kz_iald (pc := 5) (f := nz pfo) fx 2 i rfl rfl (by omega) (by decide) dX4_count_5 ?_
  have r_1 := rpfo i
  refine kz_callS (pc := 6) (As := [.int (iI (((pfo i : Nat) : Int)))]) (st := []) (wc := []) fx (c_bitCount G l hlt (pfo i) (by first | assumption | omega)) rt_ne (gu_S (pt_2 197 rfl rfl) (pt_2 198 rfl rfl) (pt_1 16 rfl rfl) (pt_2 199 rfl rfl)) rfl ⟨by decide, by decide, rfl⟩ (by decide) [] (by decide) rfl rfl (by decide) dX4_count_6 (by decide) (by decide) (kc_rt (r := some (.int (iI (((pc12 (pfo i) : Nat) : Int))))) (w1 := []) (w' := [(tp, .inr (6, [.int (iI (((np : Nat) : Int))), .ref p1, .ref p2])), (p1, cI G 6 ple), (p2, cI G 6 (nz pfo))]) (is9 := [0, 1, 2]) (stk' := [.int (iI (((pc12 (pfo i) : Nat) : Int)))]) rfl (by decide) rfl ?_)
  refine kz_iret (pc := 9) fx rx dX4_count_9 (by decide) (by decide) ?_
  exact rt_i (by first | rfl | omega | (simp [*]; done)) (rfl)
set_option maxRecDepth 100000 in
set_option maxHeartbeats 4000000 in
/-- fact -/
theorem c_fact (G : GX) (l : Launch) (hlt : l.stackTraces = false) (tml : Nat) (f1 : Nat) (nm : Nat) (cap : Nat) (fac : Nat → Int) (i : Nat) (k : Nat) (hcap : cap < 65536) (hi : i * 4 + k < cap) : HC G l yX2_fact wsX2_fact 0 0 0 0 [.ref tml, .int (iI (((i : Nat) : Int))), .int (iI (((k : Nat) : Int)))] [(tml, .inr (4, [.int (iI (((nm : Nat) : Int))), .ref f1])), (f1, cI G cap fac)] (rt (some (.int (iI (fac (i * 4 + k))))) [(tml, .inr (4, [.int (iI (((nm : Nat) : Int))), .ref f1])), (f1, cI G cap fac)]) := by
  refine kz_start cX2_fact 3 (some .int) [(0, .ref tml), (1, .int (iI (((i : Nat) : Int)))), (2, .int (iI (((k : Nat) : Int))))] hlt (by decide) rfl (Nat.le_of_ble_eq_true rfl) rfl (fun X fx rx => ?_)
  refine kz_aload_n (pc := 0) fx 0 dX2_fact_0 rfl ?_
  refine kz_get (pc := 1) (ci := 4) (C := RX2) (T := TX2) (N := 2) (ref := "Statusboard$Mails") (v := .ref f1) fx 0 1 rfl rfl (fun u h => List.mem_cons_of_mem _ (pu_X2 u h)) (by decide) (List.mem_cons_of_mem _ (pt_1 147 rfl rfl)) rfl rfl dX2_fact_1 ?_
  refine kz_iload_n (pc := 4) fx 1 dX2_fact_4 rfl ?_
  refine kz_iconst (pc := 5) fx dX2_fact_5 ?_
  refine kz_imul (pc := 6) fx dX2_fact_6 ?_
  refine kz_iload_n (pc := 7) fx 2 dX2_fact_7 rfl ?_
  refine kz_iadd (pc := 8) fx dX2_fact_8 ?_
  refine kz_iald (pc := 9) (f := fac) fx 1 (((((i : Nat) : Int) * 4) + ((k : Nat) : Int)).toNat) rfl (by omega) (by omega) (by omega) dX2_fact_9 ?_
  refine kz_iret (pc := 10) fx rx dX2_fact_10 (by decide) (by decide) ?_
  exact rt_i (by first | rfl | omega | (simp [*]; done)) (rfl)
