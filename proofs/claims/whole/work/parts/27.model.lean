/-! THE MODEL: its small methods. -/
set_option maxRecDepth 100000 in
set_option maxHeartbeats 4000000 in
/-- isBetween -/
theorem m_between (G : GX) (l : Launch) (hlt : l.stackTraces = false) (v9 : Int) (a9 : Int) (b9 : Int) (hv : -2147483648 ≤ v9 ∧ v9 < 2147483648) (ha : -2147483648 ≤ a9 ∧ a9 < 2147483648) (hb : -2147483648 ≤ b9 ∧ b9 < 2147483648) : HC G l yX7_isBetween wsX7_isBetween 0 0 0 0 [.int (iI (v9)), .int (iI (a9)), .int (iI (b9))] [] (fun (o9 : OC) (w9 : va_W) => ((a9 ≤ v9 ∧ v9 ≤ b9) ∧ o9 = .inl (some (.int (iI (1)))) ∧ w9 = []) ∨ ((v9 < a9 ∨ b9 < v9) ∧ o9 = .inl (some (.int (iI (0)))) ∧ w9 = [])) := by
  refine kz_start cX7_isBetween 3 (some .boolean) [(0, .int (iI (v9))), (1, .int (iI (a9))), (2, .int (iI (b9)))] hlt (by decide) rfl (Nat.le_of_ble_eq_true rfl) rfl (fun X fx rx => ?_)
  refine kz_iload_n (pc := 0) fx 1 dX7_isBetween_0 rfl ?_
  refine kz_iload_n (pc := 1) fx 0 dX7_isBetween_1 rfl ?_
  refine kz_icmp_gt (pc := 2) fx 14 dX7_isBetween_2 (by decide) ⟨by omega, by omega⟩ ⟨by omega, by omega⟩ (fun h_2 => ?_) (fun h_2 => ?_)
  · refine kz_iconst (pc := 14) fx dX7_isBetween_14 ?_
    refine kz_zret (pc := 15) fx rx (by decide +kernel) dX7_isBetween_15 (by decide) (by decide) ?_
    exact Or.inr (⟨(by first | assumption | omega | (simp_all; done)), oi (by first | rfl | omega | (simp [*]; done)), (rfl)⟩)
  · refine kz_iload_n (pc := 5) fx 0 dX7_isBetween_5 rfl ?_
    refine kz_iload_n (pc := 6) fx 2 dX7_isBetween_6 rfl ?_
    refine kz_icmp_gt (pc := 7) fx 14 dX7_isBetween_7 (by decide) ⟨by omega, by omega⟩ ⟨by omega, by omega⟩ (fun h_7 => ?_) (fun h_7 => ?_)
    · refine kz_iconst (pc := 14) fx dX7_isBetween_14 ?_
      refine kz_zret (pc := 15) fx rx (by decide +kernel) dX7_isBetween_15 (by decide) (by decide) ?_
      exact Or.inr (⟨(by first | assumption | omega | (simp_all; done)), oi (by first | rfl | omega | (simp [*]; done)), (rfl)⟩)
    · refine kz_iconst (pc := 10) fx dX7_isBetween_10 ?_
      refine kz_goto (pc := 11) (tgt := 15) fx dX7_isBetween_11 (by decide) ?_
      refine kz_zret (pc := 15) fx rx (by decide +kernel) dX7_isBetween_15 (by decide) (by decide) ?_
      exact Or.inl ⟨(by first | assumption | omega | (simp_all; done)), oi (by first | rfl | omega | (simp [*]; done)), (rfl)⟩
set_option maxRecDepth 100000 in
set_option maxHeartbeats 4000000 in
/-- loss -/
theorem m_loss (G : GX) (l : Launch) (hlt : l.stackTraces = false) (v : Int) (hv : 0 ≤ v ∧ v ≤ 3) : HC G l yX7_loss wsX7_loss 0 0 0 0 [.int (iI (v))] [] (rt (some (.int (iI (lossZ v)))) []) := by
  refine kz_start cX7_loss 1 (some .int) [(0, .int (iI (v)))] hlt (by decide) rfl (Nat.le_of_ble_eq_true rfl) rfl (fun X fx rx => ?_)
  refine kz_iload_n (pc := 0) fx 0 dX7_loss_0 rfl ?_
  refine kz_iconst (pc := 1) fx dX7_loss_1 ?_
  refine kz_icmp_ne (pc := 2) fx 10 dX7_loss_2 (by decide) ⟨by omega, by omega⟩ ⟨by decide, by decide⟩ (fun h_2 => ?_) (fun h_2 => ?_)
  · refine kz_bipush (pc := 10) fx dX7_loss_10 (by decide +kernel) ?_
    refine kz_iload_n (pc := 12) fx 0 dX7_loss_12 rfl ?_
    refine kz_imul (pc := 13) fx dX7_loss_13 ?_
    refine kz_iret (pc := 14) fx rx dX7_loss_14 (by decide) (by decide) ?_
    exact rt_i (by unfold lossZ; repeat (first | omega | rw [if_pos (by omega)] | rw [if_neg (by omega)])) (rfl)
  · refine kz_bipush (pc := 5) fx dX7_loss_5 (by decide +kernel) ?_
    refine kz_goto (pc := 7) (tgt := 14) fx dX7_loss_7 (by decide) ?_
    refine kz_iret (pc := 14) fx rx dX7_loss_14 (by decide) (by decide) ?_
    exact rt_i (by unfold lossZ; repeat (first | omega | rw [if_pos (by omega)] | rw [if_neg (by omega)])) (rfl)
set_option maxRecDepth 100000 in
set_option maxHeartbeats 4000000 in
/-- letter -/
theorem m_letter (G : GX) (l : Launch) (hlt : l.stackTraces = false) (v : Int) (hv : 0 ≤ v ∧ v ≤ 3) : HC G l yX7_letter wsX7_letter 0 0 0 0 [.int (iI (v))] [] (rt (some (.int (iI (sgnZ v)))) []) := by
  refine kz_start cX7_letter 1 (some .char) [(0, .int (iI (v)))] hlt (by decide) rfl (Nat.le_of_ble_eq_true rfl) rfl (fun X fx rx => ?_)
  refine kz_iload_n (pc := 0) fx 0 dX7_letter_0 rfl ?_
  refine kz_if_ne (pc := 1) fx 9 dX7_letter_1 (by decide) ⟨by omega, by omega⟩ (fun h_1 => ?_) (fun h_1 => ?_)
  · refine kz_iload_n (pc := 9) fx 0 dX7_letter_9 rfl ?_
    refine kz_iconst (pc := 10) fx dX7_letter_10 ?_
    refine kz_icmp_ne (pc := 11) fx 19 dX7_letter_11 (by decide) ⟨by omega, by omega⟩ ⟨by decide, by decide⟩ (fun h_11 => ?_) (fun h_11 => ?_)
    · refine kz_iload_n (pc := 19) fx 0 dX7_letter_19 rfl ?_
      refine kz_iconst (pc := 20) fx dX7_letter_20 ?_
      refine kz_icmp_ne (pc := 21) fx 29 dX7_letter_21 (by decide) ⟨by omega, by omega⟩ ⟨by decide, by decide⟩ (fun h_21 => ?_) (fun h_21 => ?_)
      · refine kz_bipush (pc := 29) fx dX7_letter_29 (by decide +kernel) ?_
        refine kz_zret (pc := 31) fx rx (by decide +kernel) dX7_letter_31 (by decide) (by decide) ?_
        exact rt_i (by unfold sgnZ; repeat (first | omega | rw [if_pos (by omega)] | rw [if_neg (by omega)])) (rfl)
      · refine kz_bipush (pc := 24) fx dX7_letter_24 (by decide +kernel) ?_
        refine kz_goto (pc := 26) (tgt := 31) fx dX7_letter_26 (by decide) ?_
        refine kz_zret (pc := 31) fx rx (by decide +kernel) dX7_letter_31 (by decide) (by decide) ?_
        exact rt_i (by unfold sgnZ; repeat (first | omega | rw [if_pos (by omega)] | rw [if_neg (by omega)])) (rfl)
    · refine kz_bipush (pc := 14) fx dX7_letter_14 (by decide +kernel) ?_
      refine kz_goto (pc := 16) (tgt := 31) fx dX7_letter_16 (by decide) ?_
      refine kz_zret (pc := 31) fx rx (by decide +kernel) dX7_letter_31 (by decide) (by decide) ?_
      exact rt_i (by unfold sgnZ; repeat (first | omega | rw [if_pos (by omega)] | rw [if_neg (by omega)])) (rfl)
  · refine kz_bipush (pc := 4) fx dX7_letter_4 (by decide +kernel) ?_
    refine kz_goto (pc := 6) (tgt := 31) fx dX7_letter_6 (by decide) ?_
    refine kz_zret (pc := 31) fx rx (by decide +kernel) dX7_letter_31 (by decide) (by decide) ?_
    exact rt_i (by unfold sgnZ; repeat (first | omega | rw [if_pos (by omega)] | rw [if_neg (by omega)])) (rfl)
set_option maxRecDepth 100000 in
set_option maxHeartbeats 4000000 in
/-- size -/
theorem m_size (G : GX) (l : Launch) (hlt : l.stackTraces = false) (n : Nat) (hn : n < 4096) : HC G l yX7_size wsX7_size 0 0 0 0 [.int (iI (((n : Nat) : Int)))] [] (rt (some (.int (iI (((pc12 n : Nat) : Int))))) []) := by
  refine kz_start cX7_size 3 (some .int) [(0, .int (iI (((n : Nat) : Int))))] hlt (by decide) rfl (Nat.le_of_ble_eq_true rfl) rfl (fun X fx rx => ?_)
  refine kz_iconst (pc := 0) fx dX7_size_0 ?_
  refine kz_istore_n (pc := 1) (lv' := [(1, .int (iI (0))), (0, .int (iI (((n : Nat) : Int))))]) fx dX7_size_1 rfl (by decide) rfl ?_
  refine kz_iconst (pc := 2) fx dX7_size_2 ?_
  refine kz_istore_n (pc := 3) (lv' := [(2, .int (iI (0))), (1, .int (iI (0))), (0, .int (iI (((n : Nat) : Int))))]) fx dX7_size_3 rfl (by decide) rfl ?_
  refine KK.sub (ks := [2, 1, 0]) (lv' := [(0, .int (iI (((n : Nat) : Int)))), (1, .int (iI (0))), (2, .int (iI (0)))]) rfl ?_
  have e_1 : (0 : Int) = ((cN n.testBit 0 : Nat) : Int) := by first | rfl | omega
  have e_2 : (0 : Int) = ((0 : Nat) : Int) := by first | rfl | omega
  refine KK.lve (lv' := [(0, .int (iI (((n : Nat) : Int)))), (1, .int (iI (((cN n.testBit 0 : Nat) : Int)))), (2, .int (iI (((0 : Nat) : Int))))]) (lv_k (lv_c e_1 (lv_c e_2 rfl))) ?_
  have i_3 : 0 ≤ 12 := Nat.zero_le 12
  refine kz_loop (σ := Nat) (fun z => 12 - z) (fun z => (z ≤ 12)) (fun z => KK X G [(0, .int (iI (((n : Nat) : Int)))), (1, .int (iI (((cN n.testBit z : Nat) : Int)))), (2, .int (iI (((z : Nat) : Int))))] [] 0 0 4 []) ?_ 0 i_3
  rintro k hk ih_4
  have hk : k ≤ 12 := hk
  show KK X G [(0, .int (iI (((n : Nat) : Int)))), (1, .int (iI (((cN n.testBit k : Nat) : Int)))), (2, .int (iI (((k : Nat) : Int))))] [] 0 0 4 []
  have hcn := cN_le n.testBit k
  refine kz_iload_n (pc := 4) fx 2 dX7_size_4 rfl ?_
  refine kz_bipush (pc := 5) fx dX7_size_5 (by decide +kernel) ?_
  refine kz_icmp_ge (pc := 7) fx 24 dX7_size_7 (by decide) ⟨by omega, by omega⟩ ⟨by decide, by decide⟩ (fun h_7 => ?_) (fun h_7 => ?_)
  · refine kz_iload_n (pc := 24) fx 1 dX7_size_24 rfl ?_
    refine kz_iret (pc := 25) fx rx dX7_size_25 (by decide) (by decide) ?_
    exact rt_i (by rw [show k = 12 by omega]; rfl) (rfl)
  · refine kz_iload_n (pc := 10) fx 1 dX7_size_10 rfl ?_
    refine kz_iload_n (pc := 11) fx 0 dX7_size_11 rfl ?_
    refine kz_iload_n (pc := 12) fx 2 dX7_size_12 rfl ?_
    refine kz_ishr (pc := 13) (v := (iI (((n / 2 ^ k : Nat) : Int)))) fx dX7_size_13 (zb_shr (by omega) (by omega)) ?_
    refine kz_iconst (pc := 14) fx dX7_size_14 ?_
    refine kz_iand (pc := 15) (v := (iI (((n / 2 ^ k % 2 : Nat) : Int)))) fx dX7_size_15 (zb_and1 _) ?_
    refine kz_iadd (pc := 16) fx dX7_size_16 ?_
    refine kz_istore_n (pc := 17) (lv' := [(1, .int (iI (((cN n.testBit k : Nat) : Int) + ((n / 2 ^ k % 2 : Nat) : Int)))), (0, .int (iI (((n : Nat) : Int)))), (2, .int (iI (((k : Nat) : Int))))]) fx dX7_size_17 rfl (by decide) rfl ?_
    refine kz_iinc (pc := 18) (k := 2) (lv' := [(2, .int (iI (((k : Nat) : Int) + 1))), (1, .int (iI (((cN n.testBit k : Nat) : Int) + ((n / 2 ^ k % 2 : Nat) : Int)))), (0, .int (iI (((n : Nat) : Int))))]) fx dX7_size_18 rfl (by decide) rfl ?_
    refine kz_goto (pc := 21) (tgt := 4) fx dX7_size_21 (by decide) ?_
    refine KK.sub (ks := [2, 1, 0]) (lv' := [(0, .int (iI (((n : Nat) : Int)))), (1, .int (iI (((cN n.testBit k : Nat) : Int) + ((n / 2 ^ k % 2 : Nat) : Int)))), (2, .int (iI (((k : Nat) : Int) + 1)))]) rfl ?_
    have e_4 : (((cN n.testBit k : Nat) : Int) + ((n / 2 ^ k % 2 : Nat) : Int) : Int) = ((cN n.testBit ((k + 1)) : Nat) : Int) := by rw [cN_bit, Int.natCast_add]
    have e_5 : (((k : Nat) : Int) + 1 : Int) = ((((k + 1)) : Nat) : Int) := by first | rfl | omega
    refine KK.lve (lv' := [(0, .int (iI (((n : Nat) : Int)))), (1, .int (iI (((cN n.testBit ((k + 1)) : Nat) : Int)))), (2, .int (iI (((((k + 1)) : Nat) : Int))))]) (lv_k (lv_c e_4 (lv_c e_5 rfl))) ?_
    have q_6 : ((k + 1)) ≤ 12 := by omega
    have m_7 : 12 - ((k + 1)) < 12 - k := by omega
    exact ih_4 (k + 1) q_6 m_7
set_option maxRecDepth 100000 in
set_option maxHeartbeats 4000000 in
/-- fails -/
theorem m_fails (G : GX) (l : Launch) (hlt : l.stackTraces = false) (y : Nat) (th : Int) (a1 : Nat) (a2 : Nat) (a3 : Nat) (a4 : Nat) (a5 : Nat) (a6 : Nat) (a7 : Nat) (a8 : Nat) (a9 : Nat) (a10 : Nat) (a11 : Nat) (a16 : Nat) (a17 : Nat) (a18 : Nat) (a19 : Nat) (a20 : Nat) (a21 : Nat) (a22 : Nat) (a25 : Nat) (nc : Nat) (ni : Nat) (nt : Nat) (mn : Nat) (np : Nat) (nm : Nat) (rm : Nat) (k9 : Int)  : HC G l yX7_fails wsX7_fails 0 0 0 0 [.ref y, .int (iI (k9))] [(y, .inr (9, [.int (iI (th)), .ref a1, .ref a2, .ref a3, .ref a4, .ref a5, .ref a6, .ref a7, .ref a8, .ref a9, .ref a10, .ref a11, .int (iI (((nc : Nat) : Int))), .int (iI (((ni : Nat) : Int))), .int (iI (((nt : Nat) : Int))), .int (iI (((mn : Nat) : Int))), .ref a16, .ref a17, .ref a18, .ref a19, .ref a20, .ref a21, .ref a22, .int (iI (((np : Nat) : Int))), .int (iI (((nm : Nat) : Int))), .ref a25, .int (iI (((rm : Nat) : Int)))]))] (rt (some (.int (iI (0)))) [(y, .inr (9, [.int (iI (k9)), .ref a1, .ref a2, .ref a3, .ref a4, .ref a5, .ref a6, .ref a7, .ref a8, .ref a9, .ref a10, .ref a11, .int (iI (((nc : Nat) : Int))), .int (iI (((ni : Nat) : Int))), .int (iI (((nt : Nat) : Int))), .int (iI (((mn : Nat) : Int))), .ref a16, .ref a17, .ref a18, .ref a19, .ref a20, .ref a21, .ref a22, .int (iI (((np : Nat) : Int))), .int (iI (((nm : Nat) : Int))), .ref a25, .int (iI (((rm : Nat) : Int)))]))]) := by
  refine kz_start cX7_fails 2 (some .int) [(0, .ref y), (1, .int (iI (k9)))] hlt (by decide) rfl (Nat.le_of_ble_eq_true rfl) rfl (fun X fx rx => ?_)
  refine kz_aload_n (pc := 0) fx 0 dX7_fails_0 rfl ?_
  refine kz_iload_n (pc := 1) fx 1 dX7_fails_1 rfl ?_
  refine kz_put (pc := 2) (ci := 9) (C := RX7) (T := TX7) (N := 27) (ref := "StatusboardModel") (v := .int (iI (k9))) (w' := [(y, .inr (9, [.int (iI (k9)), .ref a1, .ref a2, .ref a3, .ref a4, .ref a5, .ref a6, .ref a7, .ref a8, .ref a9, .ref a10, .ref a11, .int (iI (((nc : Nat) : Int))), .int (iI (((ni : Nat) : Int))), .int (iI (((nt : Nat) : Int))), .int (iI (((mn : Nat) : Int))), .ref a16, .ref a17, .ref a18, .ref a19, .ref a20, .ref a21, .ref a22, .int (iI (((np : Nat) : Int))), .int (iI (((nm : Nat) : Int))), .ref a25, .int (iI (((rm : Nat) : Int)))]))]) fx tyX7 0 0 rfl rfl (fun u h => List.mem_cons_of_mem _ (pu_X7 u h)) tyX7_ok nmX7 (by decide) (List.mem_cons_of_mem _ (pt_5 5 rfl rfl)) rfl rfl rfl rfl (Nat.le_of_ble_eq_true rfl) dX7_fails_2 rfl ?_
  refine kz_iconst (pc := 5) fx dX7_fails_5 ?_
  refine kz_iret (pc := 6) fx rx dX7_fails_6 (by decide) (by decide) ?_
  exact rt_i (by first | rfl | omega | (simp [*]; done)) (rfl)
set_option maxRecDepth 100000 in
set_option maxHeartbeats 4000000 in
/-- isWrong -/
theorem m_isWrong (G : GX) (l : Launch) (hlt : l.stackTraces = false) (y : Nat) (th : Int) (a1 : Nat) (a2 : Nat) (a3 : Nat) (a4 : Nat) (a5 : Nat) (a6 : Nat) (a7 : Nat) (a8 : Nat) (a9 : Nat) (a10 : Nat) (a11 : Nat) (a16 : Nat) (a17 : Nat) (a18 : Nat) (a19 : Nat) (a20 : Nat) (a21 : Nat) (a22 : Nat) (a25 : Nat) (nc : Nat) (ni : Nat) (nt : Nat) (mn : Nat) (np : Nat) (nm : Nat) (rm : Nat) (k9 : Int)  : HC G l yX7_isWrong wsX7_isWrong 0 0 0 0 [.ref y, .int (iI (k9))] [(y, .inr (9, [.int (iI (th)), .ref a1, .ref a2, .ref a3, .ref a4, .ref a5, .ref a6, .ref a7, .ref a8, .ref a9, .ref a10, .ref a11, .int (iI (((nc : Nat) : Int))), .int (iI (((ni : Nat) : Int))), .int (iI (((nt : Nat) : Int))), .int (iI (((mn : Nat) : Int))), .ref a16, .ref a17, .ref a18, .ref a19, .ref a20, .ref a21, .ref a22, .int (iI (((np : Nat) : Int))), .int (iI (((nm : Nat) : Int))), .ref a25, .int (iI (((rm : Nat) : Int)))]))] (rt (some (.int (iI (0)))) [(y, .inr (9, [.int (iI (k9)), .ref a1, .ref a2, .ref a3, .ref a4, .ref a5, .ref a6, .ref a7, .ref a8, .ref a9, .ref a10, .ref a11, .int (iI (((nc : Nat) : Int))), .int (iI (((ni : Nat) : Int))), .int (iI (((nt : Nat) : Int))), .int (iI (((mn : Nat) : Int))), .ref a16, .ref a17, .ref a18, .ref a19, .ref a20, .ref a21, .ref a22, .int (iI (((np : Nat) : Int))), .int (iI (((nm : Nat) : Int))), .ref a25, .int (iI (((rm : Nat) : Int)))]))]) := by
  refine kz_start cX7_isWrong 2 (some .boolean) [(0, .ref y), (1, .int (iI (k9)))] hlt (by decide) rfl (Nat.le_of_ble_eq_true rfl) rfl (fun X fx rx => ?_)
  refine kz_aload_n (pc := 0) fx 0 dX7_isWrong_0 rfl ?_
  refine kz_iload_n (pc := 1) fx 1 dX7_isWrong_1 rfl ?_
  refine kz_put (pc := 2) (ci := 9) (C := RX7) (T := TX7) (N := 27) (ref := "StatusboardModel") (v := .int (iI (k9))) (w' := [(y, .inr (9, [.int (iI (k9)), .ref a1, .ref a2, .ref a3, .ref a4, .ref a5, .ref a6, .ref a7, .ref a8, .ref a9, .ref a10, .ref a11, .int (iI (((nc : Nat) : Int))), .int (iI (((ni : Nat) : Int))), .int (iI (((nt : Nat) : Int))), .int (iI (((mn : Nat) : Int))), .ref a16, .ref a17, .ref a18, .ref a19, .ref a20, .ref a21, .ref a22, .int (iI (((np : Nat) : Int))), .int (iI (((nm : Nat) : Int))), .ref a25, .int (iI (((rm : Nat) : Int)))]))]) fx tyX7 0 0 rfl rfl (fun u h => List.mem_cons_of_mem _ (pu_X7 u h)) tyX7_ok nmX7 (by decide) (List.mem_cons_of_mem _ (pt_5 5 rfl rfl)) rfl rfl rfl rfl (Nat.le_of_ble_eq_true rfl) dX7_isWrong_2 rfl ?_
  refine kz_iconst (pc := 5) fx dX7_isWrong_5 ?_
  refine kz_zret (pc := 6) fx rx (by decide +kernel) dX7_isWrong_6 (by decide) (by decide) ?_
  exact rt_i (by first | rfl | omega | (simp [*]; done)) (rfl)
set_option maxRecDepth 100000 in
set_option maxHeartbeats 4000000 in
/-- thrown -/
theorem m_thrown (G : GX) (l : Launch) (hlt : l.stackTraces = false) (y : Nat) (th : Int) (a1 : Nat) (a2 : Nat) (a3 : Nat) (a4 : Nat) (a5 : Nat) (a6 : Nat) (a7 : Nat) (a8 : Nat) (a9 : Nat) (a10 : Nat) (a11 : Nat) (a16 : Nat) (a17 : Nat) (a18 : Nat) (a19 : Nat) (a20 : Nat) (a21 : Nat) (a22 : Nat) (a25 : Nat) (nc : Nat) (ni : Nat) (nt : Nat) (mn : Nat) (np : Nat) (nm : Nat) (rm : Nat)  : HC G l yX7_thrown wsX7_thrown 0 0 0 0 [.ref y] [(y, .inr (9, [.int (iI (th)), .ref a1, .ref a2, .ref a3, .ref a4, .ref a5, .ref a6, .ref a7, .ref a8, .ref a9, .ref a10, .ref a11, .int (iI (((nc : Nat) : Int))), .int (iI (((ni : Nat) : Int))), .int (iI (((nt : Nat) : Int))), .int (iI (((mn : Nat) : Int))), .ref a16, .ref a17, .ref a18, .ref a19, .ref a20, .ref a21, .ref a22, .int (iI (((np : Nat) : Int))), .int (iI (((nm : Nat) : Int))), .ref a25, .int (iI (((rm : Nat) : Int)))]))] (rt (some (.int (iI (th)))) [(y, .inr (9, [.int (iI (th)), .ref a1, .ref a2, .ref a3, .ref a4, .ref a5, .ref a6, .ref a7, .ref a8, .ref a9, .ref a10, .ref a11, .int (iI (((nc : Nat) : Int))), .int (iI (((ni : Nat) : Int))), .int (iI (((nt : Nat) : Int))), .int (iI (((mn : Nat) : Int))), .ref a16, .ref a17, .ref a18, .ref a19, .ref a20, .ref a21, .ref a22, .int (iI (((np : Nat) : Int))), .int (iI (((nm : Nat) : Int))), .ref a25, .int (iI (((rm : Nat) : Int)))]))]) := by
  refine kz_start cX7_thrown 1 (some .int) [(0, .ref y)] hlt (by decide) rfl (Nat.le_of_ble_eq_true rfl) rfl (fun X fx rx => ?_)
  refine kz_aload_n (pc := 0) fx 0 dX7_thrown_0 rfl ?_
  refine kz_get (pc := 1) (ci := 9) (C := RX7) (T := TX7) (N := 27) (ref := "StatusboardModel") (v := .int (iI (th))) fx 0 0 rfl rfl (fun u h => List.mem_cons_of_mem _ (pu_X7 u h)) (by decide) (List.mem_cons_of_mem _ (pt_5 5 rfl rfl)) rfl rfl dX7_thrown_1 ?_
  refine kz_iret (pc := 4) fx rx dX7_thrown_4 (by decide) (by decide) ?_
  exact rt_i (by first | rfl | omega | (simp [*]; done)) (rfl)
set_option maxRecDepth 100000 in
set_option maxHeartbeats 4000000 in
/-- X7_isComponent -/
theorem m_isComp (G : GX) (l : Launch) (hlt : l.stackTraces = false) (y : Nat) (th : Int) (a1 : Nat) (a2 : Nat) (a3 : Nat) (a4 : Nat) (a5 : Nat) (a6 : Nat) (a7 : Nat) (a8 : Nat) (a9 : Nat) (a10 : Nat) (a11 : Nat) (a16 : Nat) (a17 : Nat) (a18 : Nat) (a19 : Nat) (a20 : Nat) (a21 : Nat) (a22 : Nat) (a25 : Nat) (nc : Nat) (ni : Nat) (nt : Nat) (mn : Nat) (np : Nat) (nm : Nat) (rm : Nat) (z : Int) (hz : -2147483648 ≤ z ∧ z < 2147483648) (hnc : nc ≤ 12) : HC G l yX7_isComponent wsX7_isComponent 1 22 0 0 [.ref y, .int (iI (z))] [(y, .inr (9, [.int (iI (th)), .ref a1, .ref a2, .ref a3, .ref a4, .ref a5, .ref a6, .ref a7, .ref a8, .ref a9, .ref a10, .ref a11, .int (iI (((nc : Nat) : Int))), .int (iI (((ni : Nat) : Int))), .int (iI (((nt : Nat) : Int))), .int (iI (((mn : Nat) : Int))), .ref a16, .ref a17, .ref a18, .ref a19, .ref a20, .ref a21, .ref a22, .int (iI (((np : Nat) : Int))), .int (iI (((nm : Nat) : Int))), .ref a25, .int (iI (((rm : Nat) : Int)))]))] (fun (o9 : OC) (w9 : va_W) => ((0 ≤ z ∧ z < nc) ∧ o9 = .inl (some (.int (iI (1)))) ∧ w9 = [(y, .inr (9, [.int (iI (th)), .ref a1, .ref a2, .ref a3, .ref a4, .ref a5, .ref a6, .ref a7, .ref a8, .ref a9, .ref a10, .ref a11, .int (iI (((nc : Nat) : Int))), .int (iI (((ni : Nat) : Int))), .int (iI (((nt : Nat) : Int))), .int (iI (((mn : Nat) : Int))), .ref a16, .ref a17, .ref a18, .ref a19, .ref a20, .ref a21, .ref a22, .int (iI (((np : Nat) : Int))), .int (iI (((nm : Nat) : Int))), .ref a25, .int (iI (((rm : Nat) : Int)))]))]) ∨ ((z < 0 ∨ nc ≤ z) ∧ o9 = .inl (some (.int (iI (0)))) ∧ w9 = [(y, .inr (9, [.int (iI (th)), .ref a1, .ref a2, .ref a3, .ref a4, .ref a5, .ref a6, .ref a7, .ref a8, .ref a9, .ref a10, .ref a11, .int (iI (((nc : Nat) : Int))), .int (iI (((ni : Nat) : Int))), .int (iI (((nt : Nat) : Int))), .int (iI (((mn : Nat) : Int))), .ref a16, .ref a17, .ref a18, .ref a19, .ref a20, .ref a21, .ref a22, .int (iI (((np : Nat) : Int))), .int (iI (((nm : Nat) : Int))), .ref a25, .int (iI (((rm : Nat) : Int)))]))])) := by
  refine kz_start cX7_isComponent 2 (some .boolean) [(0, .ref y), (1, .int (iI (z)))] hlt (by decide) rfl (Nat.le_of_ble_eq_true rfl) rfl (fun X fx rx => ?_)
  refine kz_iload_n (pc := 0) fx 1 dX7_isComponent_0 rfl ?_
  refine kz_iconst (pc := 1) fx dX7_isComponent_1 ?_
  refine kz_aload_n (pc := 2) fx 0 dX7_isComponent_2 rfl ?_
  refine kz_get (pc := 3) (ci := 9) (C := RX7) (T := TX7) (N := 27) (ref := "StatusboardModel") (v := .int (iI (((nc : Nat) : Int)))) fx 0 12 rfl rfl (fun u h => List.mem_cons_of_mem _ (pu_X7 u h)) (by decide) (List.mem_cons_of_mem _ (pt_5 17 rfl rfl)) rfl rfl dX7_isComponent_3 ?_
  refine kz_iconst (pc := 6) fx dX7_isComponent_6 ?_
  refine kz_isub (pc := 7) fx dX7_isComponent_7 ?_
  refine kz_callS (pc := 8) (As := [.int (iI (z)), .int (iI (0)), .int (iI (((nc : Nat) : Int) - 1))]) (st := []) (wc := []) fx (m_between G l hlt z 0 (((nc : Nat) : Int) - 1) hz (by first | assumption | omega) (by first | assumption | omega)) (by rintro E w9 (⟨_, h8, _⟩ | ⟨_, h8, _⟩) <;> cases h8) (gu_S (pt_5 99 rfl rfl) (pt_5 100 rfl rfl) (pt_1 8 rfl rfl) (pt_5 101 rfl rfl)) rfl ⟨by decide, by decide, rfl⟩ (by decide) [] (by decide +kernel) rfl rfl (Nat.le_of_ble_eq_true rfl) dX7_isComponent_8 (by decide) (by decide) (fun r9 w9 hp9 => ?_)
  rcases hp9 with ⟨v_2, h8, h9⟩ | ⟨v_3, h8, h9⟩
  · refine kc_rt9 (r := some (.int (iI (1)))) (w1 := []) (w' := [(y, .inr (9, [.int (iI (th)), .ref a1, .ref a2, .ref a3, .ref a4, .ref a5, .ref a6, .ref a7, .ref a8, .ref a9, .ref a10, .ref a11, .int (iI (((nc : Nat) : Int))), .int (iI (((ni : Nat) : Int))), .int (iI (((nt : Nat) : Int))), .int (iI (((mn : Nat) : Int))), .ref a16, .ref a17, .ref a18, .ref a19, .ref a20, .ref a21, .ref a22, .int (iI (((np : Nat) : Int))), .int (iI (((nm : Nat) : Int))), .ref a25, .int (iI (((rm : Nat) : Int)))]))]) (is9 := [0]) (isR := [0]) (N9 := 1) (wR := [(y, .inr (9, [.int (iI (th)), .ref a1, .ref a2, .ref a3, .ref a4, .ref a5, .ref a6, .ref a7, .ref a8, .ref a9, .ref a10, .ref a11, .int (iI (((nc : Nat) : Int))), .int (iI (((ni : Nat) : Int))), .int (iI (((nt : Nat) : Int))), .int (iI (((mn : Nat) : Int))), .ref a16, .ref a17, .ref a18, .ref a19, .ref a20, .ref a21, .ref a22, .int (iI (((np : Nat) : Int))), .int (iI (((nm : Nat) : Int))), .ref a25, .int (iI (((rm : Nat) : Int)))]))]) (stk' := [.int (iI (1))]) rfl (by decide +kernel) rfl rfl (by decide +kernel) rfl ?_ _ _ ⟨h8, h9⟩
    refine kz_zret (pc := 11) fx rx (by decide +kernel) dX7_isComponent_11 (by decide) (by decide) ?_
    exact Or.inl ⟨(by first | assumption | omega | (simp_all; done)), oi (by first | rfl | omega | (simp [*]; done)), (rfl)⟩
  · refine kc_rt9 (r := some (.int (iI (0)))) (w1 := []) (w' := [(y, .inr (9, [.int (iI (th)), .ref a1, .ref a2, .ref a3, .ref a4, .ref a5, .ref a6, .ref a7, .ref a8, .ref a9, .ref a10, .ref a11, .int (iI (((nc : Nat) : Int))), .int (iI (((ni : Nat) : Int))), .int (iI (((nt : Nat) : Int))), .int (iI (((mn : Nat) : Int))), .ref a16, .ref a17, .ref a18, .ref a19, .ref a20, .ref a21, .ref a22, .int (iI (((np : Nat) : Int))), .int (iI (((nm : Nat) : Int))), .ref a25, .int (iI (((rm : Nat) : Int)))]))]) (is9 := [0]) (isR := [0]) (N9 := 1) (wR := [(y, .inr (9, [.int (iI (th)), .ref a1, .ref a2, .ref a3, .ref a4, .ref a5, .ref a6, .ref a7, .ref a8, .ref a9, .ref a10, .ref a11, .int (iI (((nc : Nat) : Int))), .int (iI (((ni : Nat) : Int))), .int (iI (((nt : Nat) : Int))), .int (iI (((mn : Nat) : Int))), .ref a16, .ref a17, .ref a18, .ref a19, .ref a20, .ref a21, .ref a22, .int (iI (((np : Nat) : Int))), .int (iI (((nm : Nat) : Int))), .ref a25, .int (iI (((rm : Nat) : Int)))]))]) (stk' := [.int (iI (0))]) rfl (by decide +kernel) rfl rfl (by decide +kernel) rfl ?_ _ _ ⟨h8, h9⟩
    refine kz_zret (pc := 11) fx rx (by decide +kernel) dX7_isComponent_11 (by decide) (by decide) ?_
    exact Or.inr (⟨(by first | assumption | omega | (simp_all; done)), oi (by first | rfl | omega | (simp [*]; done)), (rfl)⟩)
set_option maxRecDepth 100000 in
set_option maxHeartbeats 4000000 in
/-- X7_isIncident -/
theorem m_isInc (G : GX) (l : Launch) (hlt : l.stackTraces = false) (y : Nat) (th : Int) (a1 : Nat) (a2 : Nat) (a3 : Nat) (a4 : Nat) (a5 : Nat) (a6 : Nat) (a7 : Nat) (a8 : Nat) (a9 : Nat) (a10 : Nat) (a11 : Nat) (a16 : Nat) (a17 : Nat) (a18 : Nat) (a19 : Nat) (a20 : Nat) (a21 : Nat) (a22 : Nat) (a25 : Nat) (nc : Nat) (ni : Nat) (nt : Nat) (mn : Nat) (np : Nat) (nm : Nat) (rm : Nat) (z : Int) (hz : -2147483648 ≤ z ∧ z < 2147483648) (hni : ni ≤ 20) : HC G l yX7_isIncident wsX7_isIncident 1 22 0 0 [.ref y, .int (iI (z))] [(y, .inr (9, [.int (iI (th)), .ref a1, .ref a2, .ref a3, .ref a4, .ref a5, .ref a6, .ref a7, .ref a8, .ref a9, .ref a10, .ref a11, .int (iI (((nc : Nat) : Int))), .int (iI (((ni : Nat) : Int))), .int (iI (((nt : Nat) : Int))), .int (iI (((mn : Nat) : Int))), .ref a16, .ref a17, .ref a18, .ref a19, .ref a20, .ref a21, .ref a22, .int (iI (((np : Nat) : Int))), .int (iI (((nm : Nat) : Int))), .ref a25, .int (iI (((rm : Nat) : Int)))]))] (fun (o9 : OC) (w9 : va_W) => ((0 ≤ z ∧ z < ni) ∧ o9 = .inl (some (.int (iI (1)))) ∧ w9 = [(y, .inr (9, [.int (iI (th)), .ref a1, .ref a2, .ref a3, .ref a4, .ref a5, .ref a6, .ref a7, .ref a8, .ref a9, .ref a10, .ref a11, .int (iI (((nc : Nat) : Int))), .int (iI (((ni : Nat) : Int))), .int (iI (((nt : Nat) : Int))), .int (iI (((mn : Nat) : Int))), .ref a16, .ref a17, .ref a18, .ref a19, .ref a20, .ref a21, .ref a22, .int (iI (((np : Nat) : Int))), .int (iI (((nm : Nat) : Int))), .ref a25, .int (iI (((rm : Nat) : Int)))]))]) ∨ ((z < 0 ∨ ni ≤ z) ∧ o9 = .inl (some (.int (iI (0)))) ∧ w9 = [(y, .inr (9, [.int (iI (th)), .ref a1, .ref a2, .ref a3, .ref a4, .ref a5, .ref a6, .ref a7, .ref a8, .ref a9, .ref a10, .ref a11, .int (iI (((nc : Nat) : Int))), .int (iI (((ni : Nat) : Int))), .int (iI (((nt : Nat) : Int))), .int (iI (((mn : Nat) : Int))), .ref a16, .ref a17, .ref a18, .ref a19, .ref a20, .ref a21, .ref a22, .int (iI (((np : Nat) : Int))), .int (iI (((nm : Nat) : Int))), .ref a25, .int (iI (((rm : Nat) : Int)))]))])) := by
  refine kz_start cX7_isIncident 2 (some .boolean) [(0, .ref y), (1, .int (iI (z)))] hlt (by decide) rfl (Nat.le_of_ble_eq_true rfl) rfl (fun X fx rx => ?_)
  refine kz_iload_n (pc := 0) fx 1 dX7_isIncident_0 rfl ?_
  refine kz_iconst (pc := 1) fx dX7_isIncident_1 ?_
  refine kz_aload_n (pc := 2) fx 0 dX7_isIncident_2 rfl ?_
  refine kz_get (pc := 3) (ci := 9) (C := RX7) (T := TX7) (N := 27) (ref := "StatusboardModel") (v := .int (iI (((ni : Nat) : Int)))) fx 0 13 rfl rfl (fun u h => List.mem_cons_of_mem _ (pu_X7 u h)) (by decide) (List.mem_cons_of_mem _ (pt_5 18 rfl rfl)) rfl rfl dX7_isIncident_3 ?_
  refine kz_iconst (pc := 6) fx dX7_isIncident_6 ?_
  refine kz_isub (pc := 7) fx dX7_isIncident_7 ?_
  refine kz_callS (pc := 8) (As := [.int (iI (z)), .int (iI (0)), .int (iI (((ni : Nat) : Int) - 1))]) (st := []) (wc := []) fx (m_between G l hlt z 0 (((ni : Nat) : Int) - 1) hz (by first | assumption | omega) (by first | assumption | omega)) (by rintro E w9 (⟨_, h8, _⟩ | ⟨_, h8, _⟩) <;> cases h8) (gu_S (pt_5 99 rfl rfl) (pt_5 100 rfl rfl) (pt_1 8 rfl rfl) (pt_5 101 rfl rfl)) rfl ⟨by decide, by decide, rfl⟩ (by decide) [] (by decide +kernel) rfl rfl (Nat.le_of_ble_eq_true rfl) dX7_isIncident_8 (by decide) (by decide) (fun r9 w9 hp9 => ?_)
  rcases hp9 with ⟨v_2, h8, h9⟩ | ⟨v_3, h8, h9⟩
  · refine kc_rt9 (r := some (.int (iI (1)))) (w1 := []) (w' := [(y, .inr (9, [.int (iI (th)), .ref a1, .ref a2, .ref a3, .ref a4, .ref a5, .ref a6, .ref a7, .ref a8, .ref a9, .ref a10, .ref a11, .int (iI (((nc : Nat) : Int))), .int (iI (((ni : Nat) : Int))), .int (iI (((nt : Nat) : Int))), .int (iI (((mn : Nat) : Int))), .ref a16, .ref a17, .ref a18, .ref a19, .ref a20, .ref a21, .ref a22, .int (iI (((np : Nat) : Int))), .int (iI (((nm : Nat) : Int))), .ref a25, .int (iI (((rm : Nat) : Int)))]))]) (is9 := [0]) (isR := [0]) (N9 := 1) (wR := [(y, .inr (9, [.int (iI (th)), .ref a1, .ref a2, .ref a3, .ref a4, .ref a5, .ref a6, .ref a7, .ref a8, .ref a9, .ref a10, .ref a11, .int (iI (((nc : Nat) : Int))), .int (iI (((ni : Nat) : Int))), .int (iI (((nt : Nat) : Int))), .int (iI (((mn : Nat) : Int))), .ref a16, .ref a17, .ref a18, .ref a19, .ref a20, .ref a21, .ref a22, .int (iI (((np : Nat) : Int))), .int (iI (((nm : Nat) : Int))), .ref a25, .int (iI (((rm : Nat) : Int)))]))]) (stk' := [.int (iI (1))]) rfl (by decide +kernel) rfl rfl (by decide +kernel) rfl ?_ _ _ ⟨h8, h9⟩
    refine kz_zret (pc := 11) fx rx (by decide +kernel) dX7_isIncident_11 (by decide) (by decide) ?_
    exact Or.inl ⟨(by first | assumption | omega | (simp_all; done)), oi (by first | rfl | omega | (simp [*]; done)), (rfl)⟩
  · refine kc_rt9 (r := some (.int (iI (0)))) (w1 := []) (w' := [(y, .inr (9, [.int (iI (th)), .ref a1, .ref a2, .ref a3, .ref a4, .ref a5, .ref a6, .ref a7, .ref a8, .ref a9, .ref a10, .ref a11, .int (iI (((nc : Nat) : Int))), .int (iI (((ni : Nat) : Int))), .int (iI (((nt : Nat) : Int))), .int (iI (((mn : Nat) : Int))), .ref a16, .ref a17, .ref a18, .ref a19, .ref a20, .ref a21, .ref a22, .int (iI (((np : Nat) : Int))), .int (iI (((nm : Nat) : Int))), .ref a25, .int (iI (((rm : Nat) : Int)))]))]) (is9 := [0]) (isR := [0]) (N9 := 1) (wR := [(y, .inr (9, [.int (iI (th)), .ref a1, .ref a2, .ref a3, .ref a4, .ref a5, .ref a6, .ref a7, .ref a8, .ref a9, .ref a10, .ref a11, .int (iI (((nc : Nat) : Int))), .int (iI (((ni : Nat) : Int))), .int (iI (((nt : Nat) : Int))), .int (iI (((mn : Nat) : Int))), .ref a16, .ref a17, .ref a18, .ref a19, .ref a20, .ref a21, .ref a22, .int (iI (((np : Nat) : Int))), .int (iI (((nm : Nat) : Int))), .ref a25, .int (iI (((rm : Nat) : Int)))]))]) (stk' := [.int (iI (0))]) rfl (by decide +kernel) rfl rfl (by decide +kernel) rfl ?_ _ _ ⟨h8, h9⟩
    refine kz_zret (pc := 11) fx rx (by decide +kernel) dX7_isIncident_11 (by decide) (by decide) ?_
    exact Or.inr (⟨(by first | assumption | omega | (simp_all; done)), oi (by first | rfl | omega | (simp [*]; done)), (rfl)⟩)
set_option maxRecDepth 100000 in
set_option maxHeartbeats 4000000 in
/-- X7_isPerson -/
theorem m_isPers (G : GX) (l : Launch) (hlt : l.stackTraces = false) (y : Nat) (th : Int) (a1 : Nat) (a2 : Nat) (a3 : Nat) (a4 : Nat) (a5 : Nat) (a6 : Nat) (a7 : Nat) (a8 : Nat) (a9 : Nat) (a10 : Nat) (a11 : Nat) (a16 : Nat) (a17 : Nat) (a18 : Nat) (a19 : Nat) (a20 : Nat) (a21 : Nat) (a22 : Nat) (a25 : Nat) (nc : Nat) (ni : Nat) (nt : Nat) (mn : Nat) (np : Nat) (nm : Nat) (rm : Nat) (z : Int) (hz : -2147483648 ≤ z ∧ z < 2147483648) (hnp : np ≤ 6) : HC G l yX7_isPerson wsX7_isPerson 1 22 0 0 [.ref y, .int (iI (z))] [(y, .inr (9, [.int (iI (th)), .ref a1, .ref a2, .ref a3, .ref a4, .ref a5, .ref a6, .ref a7, .ref a8, .ref a9, .ref a10, .ref a11, .int (iI (((nc : Nat) : Int))), .int (iI (((ni : Nat) : Int))), .int (iI (((nt : Nat) : Int))), .int (iI (((mn : Nat) : Int))), .ref a16, .ref a17, .ref a18, .ref a19, .ref a20, .ref a21, .ref a22, .int (iI (((np : Nat) : Int))), .int (iI (((nm : Nat) : Int))), .ref a25, .int (iI (((rm : Nat) : Int)))]))] (fun (o9 : OC) (w9 : va_W) => ((0 ≤ z ∧ z < np) ∧ o9 = .inl (some (.int (iI (1)))) ∧ w9 = [(y, .inr (9, [.int (iI (th)), .ref a1, .ref a2, .ref a3, .ref a4, .ref a5, .ref a6, .ref a7, .ref a8, .ref a9, .ref a10, .ref a11, .int (iI (((nc : Nat) : Int))), .int (iI (((ni : Nat) : Int))), .int (iI (((nt : Nat) : Int))), .int (iI (((mn : Nat) : Int))), .ref a16, .ref a17, .ref a18, .ref a19, .ref a20, .ref a21, .ref a22, .int (iI (((np : Nat) : Int))), .int (iI (((nm : Nat) : Int))), .ref a25, .int (iI (((rm : Nat) : Int)))]))]) ∨ ((z < 0 ∨ np ≤ z) ∧ o9 = .inl (some (.int (iI (0)))) ∧ w9 = [(y, .inr (9, [.int (iI (th)), .ref a1, .ref a2, .ref a3, .ref a4, .ref a5, .ref a6, .ref a7, .ref a8, .ref a9, .ref a10, .ref a11, .int (iI (((nc : Nat) : Int))), .int (iI (((ni : Nat) : Int))), .int (iI (((nt : Nat) : Int))), .int (iI (((mn : Nat) : Int))), .ref a16, .ref a17, .ref a18, .ref a19, .ref a20, .ref a21, .ref a22, .int (iI (((np : Nat) : Int))), .int (iI (((nm : Nat) : Int))), .ref a25, .int (iI (((rm : Nat) : Int)))]))])) := by
  refine kz_start cX7_isPerson 2 (some .boolean) [(0, .ref y), (1, .int (iI (z)))] hlt (by decide) rfl (Nat.le_of_ble_eq_true rfl) rfl (fun X fx rx => ?_)
  refine kz_iload_n (pc := 0) fx 1 dX7_isPerson_0 rfl ?_
  refine kz_iconst (pc := 1) fx dX7_isPerson_1 ?_
  refine kz_aload_n (pc := 2) fx 0 dX7_isPerson_2 rfl ?_
  refine kz_get (pc := 3) (ci := 9) (C := RX7) (T := TX7) (N := 27) (ref := "StatusboardModel") (v := .int (iI (((np : Nat) : Int)))) fx 0 23 rfl rfl (fun u h => List.mem_cons_of_mem _ (pu_X7 u h)) (by decide) (List.mem_cons_of_mem _ (pt_5 28 rfl rfl)) rfl rfl dX7_isPerson_3 ?_
  refine kz_iconst (pc := 6) fx dX7_isPerson_6 ?_
  refine kz_isub (pc := 7) fx dX7_isPerson_7 ?_
  refine kz_callS (pc := 8) (As := [.int (iI (z)), .int (iI (0)), .int (iI (((np : Nat) : Int) - 1))]) (st := []) (wc := []) fx (m_between G l hlt z 0 (((np : Nat) : Int) - 1) hz (by first | assumption | omega) (by first | assumption | omega)) (by rintro E w9 (⟨_, h8, _⟩ | ⟨_, h8, _⟩) <;> cases h8) (gu_S (pt_5 99 rfl rfl) (pt_5 100 rfl rfl) (pt_1 8 rfl rfl) (pt_5 101 rfl rfl)) rfl ⟨by decide, by decide, rfl⟩ (by decide) [] (by decide +kernel) rfl rfl (Nat.le_of_ble_eq_true rfl) dX7_isPerson_8 (by decide) (by decide) (fun r9 w9 hp9 => ?_)
  rcases hp9 with ⟨v_2, h8, h9⟩ | ⟨v_3, h8, h9⟩
  · refine kc_rt9 (r := some (.int (iI (1)))) (w1 := []) (w' := [(y, .inr (9, [.int (iI (th)), .ref a1, .ref a2, .ref a3, .ref a4, .ref a5, .ref a6, .ref a7, .ref a8, .ref a9, .ref a10, .ref a11, .int (iI (((nc : Nat) : Int))), .int (iI (((ni : Nat) : Int))), .int (iI (((nt : Nat) : Int))), .int (iI (((mn : Nat) : Int))), .ref a16, .ref a17, .ref a18, .ref a19, .ref a20, .ref a21, .ref a22, .int (iI (((np : Nat) : Int))), .int (iI (((nm : Nat) : Int))), .ref a25, .int (iI (((rm : Nat) : Int)))]))]) (is9 := [0]) (isR := [0]) (N9 := 1) (wR := [(y, .inr (9, [.int (iI (th)), .ref a1, .ref a2, .ref a3, .ref a4, .ref a5, .ref a6, .ref a7, .ref a8, .ref a9, .ref a10, .ref a11, .int (iI (((nc : Nat) : Int))), .int (iI (((ni : Nat) : Int))), .int (iI (((nt : Nat) : Int))), .int (iI (((mn : Nat) : Int))), .ref a16, .ref a17, .ref a18, .ref a19, .ref a20, .ref a21, .ref a22, .int (iI (((np : Nat) : Int))), .int (iI (((nm : Nat) : Int))), .ref a25, .int (iI (((rm : Nat) : Int)))]))]) (stk' := [.int (iI (1))]) rfl (by decide +kernel) rfl rfl (by decide +kernel) rfl ?_ _ _ ⟨h8, h9⟩
    refine kz_zret (pc := 11) fx rx (by decide +kernel) dX7_isPerson_11 (by decide) (by decide) ?_
    exact Or.inl ⟨(by first | assumption | omega | (simp_all; done)), oi (by first | rfl | omega | (simp [*]; done)), (rfl)⟩
  · refine kc_rt9 (r := some (.int (iI (0)))) (w1 := []) (w' := [(y, .inr (9, [.int (iI (th)), .ref a1, .ref a2, .ref a3, .ref a4, .ref a5, .ref a6, .ref a7, .ref a8, .ref a9, .ref a10, .ref a11, .int (iI (((nc : Nat) : Int))), .int (iI (((ni : Nat) : Int))), .int (iI (((nt : Nat) : Int))), .int (iI (((mn : Nat) : Int))), .ref a16, .ref a17, .ref a18, .ref a19, .ref a20, .ref a21, .ref a22, .int (iI (((np : Nat) : Int))), .int (iI (((nm : Nat) : Int))), .ref a25, .int (iI (((rm : Nat) : Int)))]))]) (is9 := [0]) (isR := [0]) (N9 := 1) (wR := [(y, .inr (9, [.int (iI (th)), .ref a1, .ref a2, .ref a3, .ref a4, .ref a5, .ref a6, .ref a7, .ref a8, .ref a9, .ref a10, .ref a11, .int (iI (((nc : Nat) : Int))), .int (iI (((ni : Nat) : Int))), .int (iI (((nt : Nat) : Int))), .int (iI (((mn : Nat) : Int))), .ref a16, .ref a17, .ref a18, .ref a19, .ref a20, .ref a21, .ref a22, .int (iI (((np : Nat) : Int))), .int (iI (((nm : Nat) : Int))), .ref a25, .int (iI (((rm : Nat) : Int)))]))]) (stk' := [.int (iI (0))]) rfl (by decide +kernel) rfl rfl (by decide +kernel) rfl ?_ _ _ ⟨h8, h9⟩
    refine kz_zret (pc := 11) fx rx (by decide +kernel) dX7_isPerson_11 (by decide) (by decide) ?_
    exact Or.inr (⟨(by first | assumption | omega | (simp_all; done)), oi (by first | rfl | omega | (simp [*]; done)), (rfl)⟩)
set_option maxRecDepth 100000 in
set_option maxHeartbeats 4000000 in
/-- X7_isMail -/
theorem m_isMail (G : GX) (l : Launch) (hlt : l.stackTraces = false) (y : Nat) (th : Int) (a1 : Nat) (a2 : Nat) (a3 : Nat) (a4 : Nat) (a5 : Nat) (a6 : Nat) (a7 : Nat) (a8 : Nat) (a9 : Nat) (a10 : Nat) (a11 : Nat) (a16 : Nat) (a17 : Nat) (a18 : Nat) (a19 : Nat) (a20 : Nat) (a21 : Nat) (a22 : Nat) (a25 : Nat) (nc : Nat) (ni : Nat) (nt : Nat) (mn : Nat) (np : Nat) (nm : Nat) (rm : Nat) (z : Int) (hz : -2147483648 ≤ z ∧ z < 2147483648) (hnm : nm ≤ 3072) : HC G l yX7_isMail wsX7_isMail 1 22 0 0 [.ref y, .int (iI (z))] [(y, .inr (9, [.int (iI (th)), .ref a1, .ref a2, .ref a3, .ref a4, .ref a5, .ref a6, .ref a7, .ref a8, .ref a9, .ref a10, .ref a11, .int (iI (((nc : Nat) : Int))), .int (iI (((ni : Nat) : Int))), .int (iI (((nt : Nat) : Int))), .int (iI (((mn : Nat) : Int))), .ref a16, .ref a17, .ref a18, .ref a19, .ref a20, .ref a21, .ref a22, .int (iI (((np : Nat) : Int))), .int (iI (((nm : Nat) : Int))), .ref a25, .int (iI (((rm : Nat) : Int)))]))] (fun (o9 : OC) (w9 : va_W) => ((0 ≤ z ∧ z < nm) ∧ o9 = .inl (some (.int (iI (1)))) ∧ w9 = [(y, .inr (9, [.int (iI (th)), .ref a1, .ref a2, .ref a3, .ref a4, .ref a5, .ref a6, .ref a7, .ref a8, .ref a9, .ref a10, .ref a11, .int (iI (((nc : Nat) : Int))), .int (iI (((ni : Nat) : Int))), .int (iI (((nt : Nat) : Int))), .int (iI (((mn : Nat) : Int))), .ref a16, .ref a17, .ref a18, .ref a19, .ref a20, .ref a21, .ref a22, .int (iI (((np : Nat) : Int))), .int (iI (((nm : Nat) : Int))), .ref a25, .int (iI (((rm : Nat) : Int)))]))]) ∨ ((z < 0 ∨ nm ≤ z) ∧ o9 = .inl (some (.int (iI (0)))) ∧ w9 = [(y, .inr (9, [.int (iI (th)), .ref a1, .ref a2, .ref a3, .ref a4, .ref a5, .ref a6, .ref a7, .ref a8, .ref a9, .ref a10, .ref a11, .int (iI (((nc : Nat) : Int))), .int (iI (((ni : Nat) : Int))), .int (iI (((nt : Nat) : Int))), .int (iI (((mn : Nat) : Int))), .ref a16, .ref a17, .ref a18, .ref a19, .ref a20, .ref a21, .ref a22, .int (iI (((np : Nat) : Int))), .int (iI (((nm : Nat) : Int))), .ref a25, .int (iI (((rm : Nat) : Int)))]))])) := by
  refine kz_start cX7_isMail 2 (some .boolean) [(0, .ref y), (1, .int (iI (z)))] hlt (by decide) rfl (Nat.le_of_ble_eq_true rfl) rfl (fun X fx rx => ?_)
  refine kz_iload_n (pc := 0) fx 1 dX7_isMail_0 rfl ?_
  refine kz_iconst (pc := 1) fx dX7_isMail_1 ?_
  refine kz_aload_n (pc := 2) fx 0 dX7_isMail_2 rfl ?_
  refine kz_get (pc := 3) (ci := 9) (C := RX7) (T := TX7) (N := 27) (ref := "StatusboardModel") (v := .int (iI (((nm : Nat) : Int)))) fx 0 24 rfl rfl (fun u h => List.mem_cons_of_mem _ (pu_X7 u h)) (by decide) (List.mem_cons_of_mem _ (pt_5 29 rfl rfl)) rfl rfl dX7_isMail_3 ?_
  refine kz_iconst (pc := 6) fx dX7_isMail_6 ?_
  refine kz_isub (pc := 7) fx dX7_isMail_7 ?_
  refine kz_callS (pc := 8) (As := [.int (iI (z)), .int (iI (0)), .int (iI (((nm : Nat) : Int) - 1))]) (st := []) (wc := []) fx (m_between G l hlt z 0 (((nm : Nat) : Int) - 1) hz (by first | assumption | omega) (by first | assumption | omega)) (by rintro E w9 (⟨_, h8, _⟩ | ⟨_, h8, _⟩) <;> cases h8) (gu_S (pt_5 99 rfl rfl) (pt_5 100 rfl rfl) (pt_1 8 rfl rfl) (pt_5 101 rfl rfl)) rfl ⟨by decide, by decide, rfl⟩ (by decide) [] (by decide +kernel) rfl rfl (Nat.le_of_ble_eq_true rfl) dX7_isMail_8 (by decide) (by decide) (fun r9 w9 hp9 => ?_)
  rcases hp9 with ⟨v_2, h8, h9⟩ | ⟨v_3, h8, h9⟩
  · refine kc_rt9 (r := some (.int (iI (1)))) (w1 := []) (w' := [(y, .inr (9, [.int (iI (th)), .ref a1, .ref a2, .ref a3, .ref a4, .ref a5, .ref a6, .ref a7, .ref a8, .ref a9, .ref a10, .ref a11, .int (iI (((nc : Nat) : Int))), .int (iI (((ni : Nat) : Int))), .int (iI (((nt : Nat) : Int))), .int (iI (((mn : Nat) : Int))), .ref a16, .ref a17, .ref a18, .ref a19, .ref a20, .ref a21, .ref a22, .int (iI (((np : Nat) : Int))), .int (iI (((nm : Nat) : Int))), .ref a25, .int (iI (((rm : Nat) : Int)))]))]) (is9 := [0]) (isR := [0]) (N9 := 1) (wR := [(y, .inr (9, [.int (iI (th)), .ref a1, .ref a2, .ref a3, .ref a4, .ref a5, .ref a6, .ref a7, .ref a8, .ref a9, .ref a10, .ref a11, .int (iI (((nc : Nat) : Int))), .int (iI (((ni : Nat) : Int))), .int (iI (((nt : Nat) : Int))), .int (iI (((mn : Nat) : Int))), .ref a16, .ref a17, .ref a18, .ref a19, .ref a20, .ref a21, .ref a22, .int (iI (((np : Nat) : Int))), .int (iI (((nm : Nat) : Int))), .ref a25, .int (iI (((rm : Nat) : Int)))]))]) (stk' := [.int (iI (1))]) rfl (by decide +kernel) rfl rfl (by decide +kernel) rfl ?_ _ _ ⟨h8, h9⟩
    refine kz_zret (pc := 11) fx rx (by decide +kernel) dX7_isMail_11 (by decide) (by decide) ?_
    exact Or.inl ⟨(by first | assumption | omega | (simp_all; done)), oi (by first | rfl | omega | (simp [*]; done)), (rfl)⟩
  · refine kc_rt9 (r := some (.int (iI (0)))) (w1 := []) (w' := [(y, .inr (9, [.int (iI (th)), .ref a1, .ref a2, .ref a3, .ref a4, .ref a5, .ref a6, .ref a7, .ref a8, .ref a9, .ref a10, .ref a11, .int (iI (((nc : Nat) : Int))), .int (iI (((ni : Nat) : Int))), .int (iI (((nt : Nat) : Int))), .int (iI (((mn : Nat) : Int))), .ref a16, .ref a17, .ref a18, .ref a19, .ref a20, .ref a21, .ref a22, .int (iI (((np : Nat) : Int))), .int (iI (((nm : Nat) : Int))), .ref a25, .int (iI (((rm : Nat) : Int)))]))]) (is9 := [0]) (isR := [0]) (N9 := 1) (wR := [(y, .inr (9, [.int (iI (th)), .ref a1, .ref a2, .ref a3, .ref a4, .ref a5, .ref a6, .ref a7, .ref a8, .ref a9, .ref a10, .ref a11, .int (iI (((nc : Nat) : Int))), .int (iI (((ni : Nat) : Int))), .int (iI (((nt : Nat) : Int))), .int (iI (((mn : Nat) : Int))), .ref a16, .ref a17, .ref a18, .ref a19, .ref a20, .ref a21, .ref a22, .int (iI (((np : Nat) : Int))), .int (iI (((nm : Nat) : Int))), .ref a25, .int (iI (((rm : Nat) : Int)))]))]) (stk' := [.int (iI (0))]) rfl (by decide +kernel) rfl rfl (by decide +kernel) rfl ?_ _ _ ⟨h8, h9⟩
    refine kz_zret (pc := 11) fx rx (by decide +kernel) dX7_isMail_11 (by decide) (by decide) ?_
    exact Or.inr (⟨(by first | assumption | omega | (simp_all; done)), oi (by first | rfl | omega | (simp [*]; done)), (rfl)⟩)
set_option maxRecDepth 100000 in
set_option maxHeartbeats 4000000 in
/-- isGroupNow -/
theorem m_isGroup (G : GX) (l : Launch) (hlt : l.stackTraces = false) (y : Nat) (th : Int) (a1 : Nat) (a2 : Nat) (a3 : Nat) (a4 : Nat) (a5 : Nat) (a6 : Nat) (a7 : Nat) (a8 : Nat) (a9 : Nat) (a10 : Nat) (a11 : Nat) (a16 : Nat) (a17 : Nat) (a18 : Nat) (a19 : Nat) (a20 : Nat) (a21 : Nat) (a22 : Nat) (a25 : Nat) (nc : Nat) (ni : Nat) (nt : Nat) (mn : Nat) (np : Nat) (nm : Nat) (rm : Nat) (par : Nat → Int) (x : Int) (hnc : nc ≤ 12) (hni : ni ≤ 20) (hnt : nt ≤ 8) (hmn : mn ≤ 9999) (hnp : np ≤ 6) (rpar : ∀ j, -1 ≤ par j ∧ par j < 12) (hx : -2147483648 ≤ x ∧ x < 2147483648) : HC G l yX7_isGroupNow wsX7_isGroupNow 0 0 0 0 [.ref y, .int (iI (x))] [(y, .inr (9, [.int (iI (th)), .ref a1, .ref a2, .ref a3, .ref a4, .ref a5, .ref a6, .ref a7, .ref a8, .ref a9, .ref a10, .ref a11, .int (iI (((nc : Nat) : Int))), .int (iI (((ni : Nat) : Int))), .int (iI (((nt : Nat) : Int))), .int (iI (((mn : Nat) : Int))), .ref a16, .ref a17, .ref a18, .ref a19, .ref a20, .ref a21, .ref a22, .int (iI (((np : Nat) : Int))), .int (iI (((nm : Nat) : Int))), .ref a25, .int (iI (((rm : Nat) : Int)))])), (a1, cI G 12 par)] (rt (some (.int (iI (bI (anyN (fun k => decide (par k = x)) nc))))) [(y, .inr (9, [.int (iI (th)), .ref a1, .ref a2, .ref a3, .ref a4, .ref a5, .ref a6, .ref a7, .ref a8, .ref a9, .ref a10, .ref a11, .int (iI (((nc : Nat) : Int))), .int (iI (((ni : Nat) : Int))), .int (iI (((nt : Nat) : Int))), .int (iI (((mn : Nat) : Int))), .ref a16, .ref a17, .ref a18, .ref a19, .ref a20, .ref a21, .ref a22, .int (iI (((np : Nat) : Int))), .int (iI (((nm : Nat) : Int))), .ref a25, .int (iI (((rm : Nat) : Int)))])), (a1, cI G 12 par)]) := by
  refine kz_start cX7_isGroupNow 3 (some .boolean) [(0, .ref y), (1, .int (iI (x)))] hlt (by decide) rfl (Nat.le_of_ble_eq_true rfl) rfl (fun X fx rx => ?_)
  refine kz_iconst (pc := 0) fx dX7_isGroupNow_0 ?_
  refine kz_istore_n (pc := 1) (lv' := [(2, .int (iI (0))), (0, .ref y), (1, .int (iI (x)))]) fx dX7_isGroupNow_1 rfl (by decide) rfl ?_
  refine KK.sub (ks := [1, 2, 0]) (lv' := [(0, .ref y), (1, .int (iI (x))), (2, .int (iI (0)))]) rfl ?_
  refine kz_loop (σ := Nat) (fun i => nc - i) (fun i => i ≤ nc ∧ anyN (fun k => decide (par k = x)) i = false) (fun i => KK X G [(0, .ref y), (1, .int (iI (x))), (2, .int (iI (((i : Nat) : Int))))] [(y, .inr (9, [.int (iI (th)), .ref a1, .ref a2, .ref a3, .ref a4, .ref a5, .ref a6, .ref a7, .ref a8, .ref a9, .ref a10, .ref a11, .int (iI (((nc : Nat) : Int))), .int (iI (((ni : Nat) : Int))), .int (iI (((nt : Nat) : Int))), .int (iI (((mn : Nat) : Int))), .ref a16, .ref a17, .ref a18, .ref a19, .ref a20, .ref a21, .ref a22, .int (iI (((np : Nat) : Int))), .int (iI (((nm : Nat) : Int))), .ref a25, .int (iI (((rm : Nat) : Int)))])), (a1, cI G 12 par)] 0 0 2 []) ?_ 0 ⟨by omega, rfl⟩
  intro i hI_2 ih_2
  obtain ⟨hle_2, hno⟩ := hI_2
  show KK X G [(0, .ref y), (1, .int (iI (x))), (2, .int (iI (((i : Nat) : Int))))] [(y, .inr (9, [.int (iI (th)), .ref a1, .ref a2, .ref a3, .ref a4, .ref a5, .ref a6, .ref a7, .ref a8, .ref a9, .ref a10, .ref a11, .int (iI (((nc : Nat) : Int))), .int (iI (((ni : Nat) : Int))), .int (iI (((nt : Nat) : Int))), .int (iI (((mn : Nat) : Int))), .ref a16, .ref a17, .ref a18, .ref a19, .ref a20, .ref a21, .ref a22, .int (iI (((np : Nat) : Int))), .int (iI (((nm : Nat) : Int))), .ref a25, .int (iI (((rm : Nat) : Int)))])), (a1, cI G 12 par)] 0 0 2 []
  refine kz_iload_n (pc := 2) fx 2 dX7_isGroupNow_2 rfl ?_
  refine kz_aload_n (pc := 3) fx 0 dX7_isGroupNow_3 rfl ?_
  refine kz_get (pc := 4) (ci := 9) (C := RX7) (T := TX7) (N := 27) (ref := "StatusboardModel") (v := .int (iI (((nc : Nat) : Int)))) fx 0 12 rfl rfl (fun u h => List.mem_cons_of_mem _ (pu_X7 u h)) (by decide) (List.mem_cons_of_mem _ (pt_5 17 rfl rfl)) rfl rfl dX7_isGroupNow_4 ?_
  refine kz_icmp_ge (pc := 7) fx 28 dX7_isGroupNow_7 (by decide) ⟨by omega, by omega⟩ ⟨by omega, by omega⟩ (fun h_7 => ?_) (fun h_7 => ?_)
  · refine kz_iconst (pc := 28) fx dX7_isGroupNow_28 ?_
    refine kz_zret (pc := 29) fx rx (by decide +kernel) dX7_isGroupNow_29 (by decide) (by decide) ?_
    exact rt_i (by first | (rw [anyN_in (k := i) (by omega) (by simp [*])]; rfl) | (rw [show nc = i by omega, hno]; rfl)) (rfl)
  · refine kz_aload_n (pc := 10) fx 0 dX7_isGroupNow_10 rfl ?_
    refine kz_get (pc := 11) (ci := 9) (C := RX7) (T := TX7) (N := 27) (ref := "StatusboardModel") (v := .ref a1) fx 0 1 rfl rfl (fun u h => List.mem_cons_of_mem _ (pu_X7 u h)) (by decide) (List.mem_cons_of_mem _ (pt_5 6 rfl rfl)) rfl rfl dX7_isGroupNow_11 ?_
    refine kz_iload_n (pc := 14) fx 2 dX7_isGroupNow_14 rfl ?_
    refine kz_iald (pc := 15) (f := par) fx 1 i rfl rfl (by omega) (by decide) dX7_isGroupNow_15 ?_
    have r_1 := rpar i
    refine kz_iload_n (pc := 16) fx 1 dX7_isGroupNow_16 rfl ?_
    refine kz_icmp_ne (pc := 17) fx 22 dX7_isGroupNow_17 (by decide) ⟨by omega, by omega⟩ ⟨by omega, by omega⟩ (fun h_17 => ?_) (fun h_17 => ?_)
    · refine kz_iinc (pc := 22) (k := 2) (lv' := [(2, .int (iI (((i : Nat) : Int) + 1))), (0, .ref y), (1, .int (iI (x)))]) fx dX7_isGroupNow_22 rfl (by decide) rfl ?_
      refine kz_goto (pc := 25) (tgt := 2) fx dX7_isGroupNow_25 (by decide) ?_
      refine KK.sub (ks := [1, 2, 0]) (lv' := [(0, .ref y), (1, .int (iI (x))), (2, .int (iI (((i : Nat) : Int) + 1)))]) rfl ?_
      have e_2 : (((i : Nat) : Int) + 1 : Int) = ((((i + 1)) : Nat) : Int) := by rfl
      refine KK.lve (lv' := [(0, .ref y), (1, .int (iI (x))), (2, .int (iI (((((i + 1)) : Nat) : Int))))]) (lv_k (lv_k (lv_c e_2 rfl))) ?_
      exact ih_2 (i + 1) ⟨by omega, anyN_ff hno (by simp_all)⟩ (by omega)
    · refine kz_iconst (pc := 20) fx dX7_isGroupNow_20 ?_
      refine kz_zret (pc := 21) fx rx (by decide +kernel) dX7_isGroupNow_21 (by decide) (by decide) ?_
      exact rt_i (by first | (rw [anyN_in (k := i) (by omega) (by simp [*])]; rfl) | (rw [show nc = i by omega, hno]; rfl)) (rfl)
set_option maxRecDepth 100000 in
set_option maxHeartbeats 4000000 in
/-- hasIncidents -/
theorem m_hasInc (G : GX) (l : Launch) (hlt : l.stackTraces = false) (y : Nat) (th : Int) (a1 : Nat) (a2 : Nat) (a3 : Nat) (a4 : Nat) (a5 : Nat) (a6 : Nat) (a7 : Nat) (a8 : Nat) (a9 : Nat) (a10 : Nat) (a11 : Nat) (a16 : Nat) (a17 : Nat) (a18 : Nat) (a19 : Nat) (a20 : Nat) (a21 : Nat) (a22 : Nat) (a25 : Nat) (nc : Nat) (ni : Nat) (nt : Nat) (mn : Nat) (np : Nat) (nm : Nat) (rm : Nat) (iow : Nat → Int) (x : Int) (hnc : nc ≤ 12) (hni : ni ≤ 20) (hnt : nt ≤ 8) (hmn : mn ≤ 9999) (hnp : np ≤ 6) (riow : ∀ j, 0 ≤ iow j ∧ iow j < 12) (hx : -2147483648 ≤ x ∧ x < 2147483648) : HC G l yX7_hasIncidents wsX7_hasIncidents 0 0 0 0 [.ref y, .int (iI (x))] [(y, .inr (9, [.int (iI (th)), .ref a1, .ref a2, .ref a3, .ref a4, .ref a5, .ref a6, .ref a7, .ref a8, .ref a9, .ref a10, .ref a11, .int (iI (((nc : Nat) : Int))), .int (iI (((ni : Nat) : Int))), .int (iI (((nt : Nat) : Int))), .int (iI (((mn : Nat) : Int))), .ref a16, .ref a17, .ref a18, .ref a19, .ref a20, .ref a21, .ref a22, .int (iI (((np : Nat) : Int))), .int (iI (((nm : Nat) : Int))), .ref a25, .int (iI (((rm : Nat) : Int)))])), (a3, cI G 20 iow)] (rt (some (.int (iI (bI (anyN (fun k => decide (iow k = x)) ni))))) [(y, .inr (9, [.int (iI (th)), .ref a1, .ref a2, .ref a3, .ref a4, .ref a5, .ref a6, .ref a7, .ref a8, .ref a9, .ref a10, .ref a11, .int (iI (((nc : Nat) : Int))), .int (iI (((ni : Nat) : Int))), .int (iI (((nt : Nat) : Int))), .int (iI (((mn : Nat) : Int))), .ref a16, .ref a17, .ref a18, .ref a19, .ref a20, .ref a21, .ref a22, .int (iI (((np : Nat) : Int))), .int (iI (((nm : Nat) : Int))), .ref a25, .int (iI (((rm : Nat) : Int)))])), (a3, cI G 20 iow)]) := by
  refine kz_start cX7_hasIncidents 3 (some .boolean) [(0, .ref y), (1, .int (iI (x)))] hlt (by decide) rfl (Nat.le_of_ble_eq_true rfl) rfl (fun X fx rx => ?_)
  refine kz_iconst (pc := 0) fx dX7_hasIncidents_0 ?_
  refine kz_istore_n (pc := 1) (lv' := [(2, .int (iI (0))), (0, .ref y), (1, .int (iI (x)))]) fx dX7_hasIncidents_1 rfl (by decide) rfl ?_
  refine KK.sub (ks := [1, 2, 0]) (lv' := [(0, .ref y), (1, .int (iI (x))), (2, .int (iI (0)))]) rfl ?_
  refine kz_loop (σ := Nat) (fun i => ni - i) (fun i => i ≤ ni ∧ anyN (fun k => decide (iow k = x)) i = false) (fun i => KK X G [(0, .ref y), (1, .int (iI (x))), (2, .int (iI (((i : Nat) : Int))))] [(y, .inr (9, [.int (iI (th)), .ref a1, .ref a2, .ref a3, .ref a4, .ref a5, .ref a6, .ref a7, .ref a8, .ref a9, .ref a10, .ref a11, .int (iI (((nc : Nat) : Int))), .int (iI (((ni : Nat) : Int))), .int (iI (((nt : Nat) : Int))), .int (iI (((mn : Nat) : Int))), .ref a16, .ref a17, .ref a18, .ref a19, .ref a20, .ref a21, .ref a22, .int (iI (((np : Nat) : Int))), .int (iI (((nm : Nat) : Int))), .ref a25, .int (iI (((rm : Nat) : Int)))])), (a3, cI G 20 iow)] 0 0 2 []) ?_ 0 ⟨by omega, rfl⟩
  intro i hI_2 ih_2
  obtain ⟨hle_2, hno⟩ := hI_2
  show KK X G [(0, .ref y), (1, .int (iI (x))), (2, .int (iI (((i : Nat) : Int))))] [(y, .inr (9, [.int (iI (th)), .ref a1, .ref a2, .ref a3, .ref a4, .ref a5, .ref a6, .ref a7, .ref a8, .ref a9, .ref a10, .ref a11, .int (iI (((nc : Nat) : Int))), .int (iI (((ni : Nat) : Int))), .int (iI (((nt : Nat) : Int))), .int (iI (((mn : Nat) : Int))), .ref a16, .ref a17, .ref a18, .ref a19, .ref a20, .ref a21, .ref a22, .int (iI (((np : Nat) : Int))), .int (iI (((nm : Nat) : Int))), .ref a25, .int (iI (((rm : Nat) : Int)))])), (a3, cI G 20 iow)] 0 0 2 []
  refine kz_iload_n (pc := 2) fx 2 dX7_hasIncidents_2 rfl ?_
  refine kz_aload_n (pc := 3) fx 0 dX7_hasIncidents_3 rfl ?_
  refine kz_get (pc := 4) (ci := 9) (C := RX7) (T := TX7) (N := 27) (ref := "StatusboardModel") (v := .int (iI (((ni : Nat) : Int)))) fx 0 13 rfl rfl (fun u h => List.mem_cons_of_mem _ (pu_X7 u h)) (by decide) (List.mem_cons_of_mem _ (pt_5 18 rfl rfl)) rfl rfl dX7_hasIncidents_4 ?_
  refine kz_icmp_ge (pc := 7) fx 28 dX7_hasIncidents_7 (by decide) ⟨by omega, by omega⟩ ⟨by omega, by omega⟩ (fun h_7 => ?_) (fun h_7 => ?_)
  · refine kz_iconst (pc := 28) fx dX7_hasIncidents_28 ?_
    refine kz_zret (pc := 29) fx rx (by decide +kernel) dX7_hasIncidents_29 (by decide) (by decide) ?_
    exact rt_i (by first | (rw [anyN_in (k := i) (by omega) (by simp [*])]; rfl) | (rw [show ni = i by omega, hno]; rfl)) (rfl)
  · refine kz_aload_n (pc := 10) fx 0 dX7_hasIncidents_10 rfl ?_
    refine kz_get (pc := 11) (ci := 9) (C := RX7) (T := TX7) (N := 27) (ref := "StatusboardModel") (v := .ref a3) fx 0 3 rfl rfl (fun u h => List.mem_cons_of_mem _ (pu_X7 u h)) (by decide) (List.mem_cons_of_mem _ (pt_5 8 rfl rfl)) rfl rfl dX7_hasIncidents_11 ?_
    refine kz_iload_n (pc := 14) fx 2 dX7_hasIncidents_14 rfl ?_
    refine kz_iald (pc := 15) (f := iow) fx 1 i rfl rfl (by omega) (by decide) dX7_hasIncidents_15 ?_
    have r_1 := riow i
    refine kz_iload_n (pc := 16) fx 1 dX7_hasIncidents_16 rfl ?_
    refine kz_icmp_ne (pc := 17) fx 22 dX7_hasIncidents_17 (by decide) ⟨by omega, by omega⟩ ⟨by omega, by omega⟩ (fun h_17 => ?_) (fun h_17 => ?_)
    · refine kz_iinc (pc := 22) (k := 2) (lv' := [(2, .int (iI (((i : Nat) : Int) + 1))), (0, .ref y), (1, .int (iI (x)))]) fx dX7_hasIncidents_22 rfl (by decide) rfl ?_
      refine kz_goto (pc := 25) (tgt := 2) fx dX7_hasIncidents_25 (by decide) ?_
      refine KK.sub (ks := [1, 2, 0]) (lv' := [(0, .ref y), (1, .int (iI (x))), (2, .int (iI (((i : Nat) : Int) + 1)))]) rfl ?_
      have e_2 : (((i : Nat) : Int) + 1 : Int) = ((((i + 1)) : Nat) : Int) := by rfl
      refine KK.lve (lv' := [(0, .ref y), (1, .int (iI (x))), (2, .int (iI (((((i + 1)) : Nat) : Int))))]) (lv_k (lv_k (lv_c e_2 rfl))) ?_
      exact ih_2 (i + 1) ⟨by omega, anyN_ff hno (by simp_all)⟩ (by omega)
    · refine kz_iconst (pc := 20) fx dX7_hasIncidents_20 ?_
      refine kz_zret (pc := 21) fx rx (by decide +kernel) dX7_hasIncidents_21 (by decide) (by decide) ?_
      exact rt_i (by first | (rw [anyN_in (k := i) (by omega) (by simp [*])]; rfl) | (rw [show ni = i by omega, hno]; rfl)) (rfl)
set_option maxRecDepth 100000 in
set_option maxHeartbeats 4000000 in
/-- covers -/
theorem m_covers (G : GX) (l : Launch) (hlt : l.stackTraces = false) (y : Nat) (th : Int) (a1 : Nat) (a2 : Nat) (a3 : Nat) (a4 : Nat) (a5 : Nat) (a6 : Nat) (a7 : Nat) (a8 : Nat) (a9 : Nat) (a10 : Nat) (a11 : Nat) (a16 : Nat) (a17 : Nat) (a18 : Nat) (a19 : Nat) (a20 : Nat) (a21 : Nat) (a22 : Nat) (a25 : Nat) (nc : Nat) (ni : Nat) (nt : Nat) (mn : Nat) (np : Nat) (nm : Nat) (rm : Nat) (ist : Nat → Int) (ien : Nat → Int) (i : Nat) (u : Int) (hnc : nc ≤ 12) (hni : ni ≤ 20) (hnt : nt ≤ 8) (hmn : mn ≤ 9999) (hnp : np ≤ 6) (rist : ∀ j, 0 ≤ ist j ∧ ist j ≤ 10000) (rien : ∀ j, -1 ≤ ien j ∧ ien j ≤ 10000) (hi : i < 20) (hu : -2147483648 ≤ u ∧ u < 2147483648) : HC G l yX7_covers wsX7_covers 0 0 0 0 [.ref y, .int (iI (((i : Nat) : Int))), .int (iI (u))] [(y, .inr (9, [.int (iI (th)), .ref a1, .ref a2, .ref a3, .ref a4, .ref a5, .ref a6, .ref a7, .ref a8, .ref a9, .ref a10, .ref a11, .int (iI (((nc : Nat) : Int))), .int (iI (((ni : Nat) : Int))), .int (iI (((nt : Nat) : Int))), .int (iI (((mn : Nat) : Int))), .ref a16, .ref a17, .ref a18, .ref a19, .ref a20, .ref a21, .ref a22, .int (iI (((np : Nat) : Int))), .int (iI (((nm : Nat) : Int))), .ref a25, .int (iI (((rm : Nat) : Int)))])), (a5, cI G 20 ist), (a6, cI G 20 ien)] (rt (some (.int (iI (bI (covB ist ien i u))))) [(y, .inr (9, [.int (iI (th)), .ref a1, .ref a2, .ref a3, .ref a4, .ref a5, .ref a6, .ref a7, .ref a8, .ref a9, .ref a10, .ref a11, .int (iI (((nc : Nat) : Int))), .int (iI (((ni : Nat) : Int))), .int (iI (((nt : Nat) : Int))), .int (iI (((mn : Nat) : Int))), .ref a16, .ref a17, .ref a18, .ref a19, .ref a20, .ref a21, .ref a22, .int (iI (((np : Nat) : Int))), .int (iI (((nm : Nat) : Int))), .ref a25, .int (iI (((rm : Nat) : Int)))])), (a5, cI G 20 ist), (a6, cI G 20 ien)]) := by
  refine kz_start cX7_covers 3 (some .boolean) [(0, .ref y), (1, .int (iI (((i : Nat) : Int)))), (2, .int (iI (u)))] hlt (by decide) rfl (Nat.le_of_ble_eq_true rfl) rfl (fun X fx rx => ?_)
  refine kz_iload_n (pc := 0) fx 2 dX7_covers_0 rfl ?_
  refine kz_aload_n (pc := 1) fx 0 dX7_covers_1 rfl ?_
  refine kz_get (pc := 2) (ci := 9) (C := RX7) (T := TX7) (N := 27) (ref := "StatusboardModel") (v := .ref a5) fx 0 5 rfl rfl (fun u h => List.mem_cons_of_mem _ (pu_X7 u h)) (by decide) (List.mem_cons_of_mem _ (pt_5 10 rfl rfl)) rfl rfl dX7_covers_2 ?_
  refine kz_iload_n (pc := 5) fx 1 dX7_covers_5 rfl ?_
  refine kz_iald (pc := 6) (f := ist) fx 1 i rfl rfl (by omega) (by decide) dX7_covers_6 ?_
  have r_1 := rist i
  refine kz_icmp_lt (pc := 7) fx 34 dX7_covers_7 (by decide) ⟨by omega, by omega⟩ ⟨by omega, by omega⟩ (fun h_7 => ?_) (fun h_7 => ?_)
  · refine kz_iconst (pc := 34) fx dX7_covers_34 ?_
    refine kz_zret (pc := 35) fx rx (by decide +kernel) dX7_covers_35 (by decide) (by decide) ?_
    exact rt_i (by simp only [covB, bI]; simp_all <;> omega) (rfl)
  · refine kz_aload_n (pc := 10) fx 0 dX7_covers_10 rfl ?_
    refine kz_get (pc := 11) (ci := 9) (C := RX7) (T := TX7) (N := 27) (ref := "StatusboardModel") (v := .ref a6) fx 0 6 rfl rfl (fun u h => List.mem_cons_of_mem _ (pu_X7 u h)) (by decide) (List.mem_cons_of_mem _ (pt_5 11 rfl rfl)) rfl rfl dX7_covers_11 ?_
    refine kz_iload_n (pc := 14) fx 1 dX7_covers_14 rfl ?_
    refine kz_iald (pc := 15) (f := ien) fx 2 i rfl rfl (by omega) (by decide) dX7_covers_15 ?_
    have r_2 := rien i
    refine kz_iconst (pc := 16) fx dX7_covers_16 ?_
    refine kz_icmp_eq (pc := 17) fx 30 dX7_covers_17 (by decide) ⟨by omega, by omega⟩ ⟨by decide, by decide⟩ (fun h_17 => ?_) (fun h_17 => ?_)
    · refine kz_iconst (pc := 30) fx dX7_covers_30 ?_
      refine kz_goto (pc := 31) (tgt := 35) fx dX7_covers_31 (by decide) ?_
      refine kz_zret (pc := 35) fx rx (by decide +kernel) dX7_covers_35 (by decide) (by decide) ?_
      exact rt_i (by simp only [covB, bI]; simp_all <;> omega) (rfl)
    · refine kz_iload_n (pc := 20) fx 2 dX7_covers_20 rfl ?_
      refine kz_aload_n (pc := 21) fx 0 dX7_covers_21 rfl ?_
      refine kz_get (pc := 22) (ci := 9) (C := RX7) (T := TX7) (N := 27) (ref := "StatusboardModel") (v := .ref a6) fx 0 6 rfl rfl (fun u h => List.mem_cons_of_mem _ (pu_X7 u h)) (by decide) (List.mem_cons_of_mem _ (pt_5 11 rfl rfl)) rfl rfl dX7_covers_22 ?_
      refine kz_iload_n (pc := 25) fx 1 dX7_covers_25 rfl ?_
      refine kz_iald (pc := 26) (f := ien) fx 2 i rfl rfl (by omega) (by decide) dX7_covers_26 ?_
      have r_3 := rien i
      refine kz_icmp_ge (pc := 27) fx 34 dX7_covers_27 (by decide) ⟨by omega, by omega⟩ ⟨by omega, by omega⟩ (fun h_27 => ?_) (fun h_27 => ?_)
      · refine kz_iconst (pc := 34) fx dX7_covers_34 ?_
        refine kz_zret (pc := 35) fx rx (by decide +kernel) dX7_covers_35 (by decide) (by decide) ?_
        exact rt_i (by simp only [covB, bI]; simp_all <;> omega) (rfl)
      · refine kz_iconst (pc := 30) fx dX7_covers_30 ?_
        refine kz_goto (pc := 31) (tgt := 35) fx dX7_covers_31 (by decide) ?_
        refine kz_zret (pc := 35) fx rx (by decide +kernel) dX7_covers_35 (by decide) (by decide) ?_
        exact rt_i (by simp only [covB, bI]; simp_all <;> omega) (rfl)
set_option maxRecDepth 100000 in
set_option maxHeartbeats 4000000 in
/-- isWanted -/
theorem m_isWanted (G : GX) (l : Launch) (hlt : l.stackTraces = false) (y : Nat) (th : Int) (a1 : Nat) (a2 : Nat) (a3 : Nat) (a4 : Nat) (a5 : Nat) (a6 : Nat) (a7 : Nat) (a8 : Nat) (a9 : Nat) (a10 : Nat) (a11 : Nat) (a16 : Nat) (a17 : Nat) (a18 : Nat) (a19 : Nat) (a20 : Nat) (a21 : Nat) (a22 : Nat) (a25 : Nat) (nc : Nat) (ni : Nat) (nt : Nat) (mn : Nat) (np : Nat) (nm : Nat) (rm : Nat) (pfo : Nat → Nat) (i : Nat) (c : Nat) (hnc : nc ≤ 12) (hni : ni ≤ 20) (hnt : nt ≤ 8) (hmn : mn ≤ 9999) (hnp : np ≤ 6) (rpfo : ∀ j, pfo j < 4096) (hi : i < 6) (hc : c < 12) : HC G l yX7_isWanted wsX7_isWanted 0 0 0 0 [.ref y, .int (iI (((i : Nat) : Int))), .int (iI (((c : Nat) : Int)))] [(y, .inr (9, [.int (iI (th)), .ref a1, .ref a2, .ref a3, .ref a4, .ref a5, .ref a6, .ref a7, .ref a8, .ref a9, .ref a10, .ref a11, .int (iI (((nc : Nat) : Int))), .int (iI (((ni : Nat) : Int))), .int (iI (((nt : Nat) : Int))), .int (iI (((mn : Nat) : Int))), .ref a16, .ref a17, .ref a18, .ref a19, .ref a20, .ref a21, .ref a22, .int (iI (((np : Nat) : Int))), .int (iI (((nm : Nat) : Int))), .ref a25, .int (iI (((rm : Nat) : Int)))])), (a17, cI G 6 (nz pfo))] (rt (some (.int (iI (bI ((pfo i).testBit c))))) [(y, .inr (9, [.int (iI (th)), .ref a1, .ref a2, .ref a3, .ref a4, .ref a5, .ref a6, .ref a7, .ref a8, .ref a9, .ref a10, .ref a11, .int (iI (((nc : Nat) : Int))), .int (iI (((ni : Nat) : Int))), .int (iI (((nt : Nat) : Int))), .int (iI (((mn : Nat) : Int))), .ref a16, .ref a17, .ref a18, .ref a19, .ref a20, .ref a21, .ref a22, .int (iI (((np : Nat) : Int))), .int (iI (((nm : Nat) : Int))), .ref a25, .int (iI (((rm : Nat) : Int)))])), (a17, cI G 6 (nz pfo))]) := by
  refine kz_start cX7_isWanted 3 (some .boolean) [(0, .ref y), (1, .int (iI (((i : Nat) : Int)))), (2, .int (iI (((c : Nat) : Int))))] hlt (by decide) rfl (Nat.le_of_ble_eq_true rfl) rfl (fun X fx rx => ?_)
  refine kz_aload_n (pc := 0) fx 0 dX7_isWanted_0 rfl ?_
  refine kz_get (pc := 1) (ci := 9) (C := RX7) (T := TX7) (N := 27) (ref := "StatusboardModel") (v := .ref a17) fx 0 17 rfl rfl (fun u h => List.mem_cons_of_mem _ (pu_X7 u h)) (by decide) (List.mem_cons_of_mem _ (pt_5 22 rfl rfl)) rfl rfl dX7_isWanted_1 ?_
  refine kz_iload_n (pc := 4) fx 1 dX7_isWanted_4 rfl ?_
  refine kz_iald (pc := 5) (f := nz pfo) fx 1 i rfl rfl (by omega) (by decide) dX7_isWanted_5 ?_
  have r_1 := rpfo i
  refine kz_iload_n (pc := 6) fx 2 dX7_isWanted_6 rfl ?_
  refine kz_ishr (pc := 7) (v := (iI (((pfo i / 2 ^ c : Nat) : Int)))) fx dX7_isWanted_7 (zb_shr (by have := rpfo i; omega) (by omega)) ?_
  refine kz_iconst (pc := 8) fx dX7_isWanted_8 ?_
  refine kz_iand (pc := 9) (v := (iI (((pfo i / 2 ^ c % 2 : Nat) : Int)))) fx dX7_isWanted_9 (zb_and1 _) ?_
  refine kz_iconst (pc := 10) fx dX7_isWanted_10 ?_
  refine kz_icmp_ne (pc := 11) fx 18 dX7_isWanted_11 (by decide) ⟨by omega, by omega⟩ ⟨by decide, by decide⟩ (fun h_11 => ?_) (fun h_11 => ?_)
  · refine kz_iconst (pc := 18) fx dX7_isWanted_18 ?_
    refine kz_zret (pc := 19) fx rx (by decide +kernel) dX7_isWanted_19 (by decide) (by decide) ?_
    exact rt_i (by first | (rw [zb_tb, decide_eq_true (by omega)]; rfl) | (rw [zb_tb, decide_eq_false (by omega)]; rfl)) (rfl)
  · refine kz_iconst (pc := 14) fx dX7_isWanted_14 ?_
    refine kz_goto (pc := 15) (tgt := 19) fx dX7_isWanted_15 (by decide) ?_
    refine kz_zret (pc := 19) fx rx (by decide +kernel) dX7_isWanted_19 (by decide) (by decide) ?_
    exact rt_i (by first | (rw [zb_tb, decide_eq_true (by omega)]; rfl) | (rw [zb_tb, decide_eq_false (by omega)]; rfl)) (rfl)
set_option maxRecDepth 100000 in
set_option maxHeartbeats 4000000 in
/-- depthOf -/
theorem m_depthOf (G : GX) (l : Launch) (hlt : l.stackTraces = false) (y : Nat) (th : Int) (a1 : Nat) (a2 : Nat) (a3 : Nat) (a4 : Nat) (a5 : Nat) (a6 : Nat) (a7 : Nat) (a8 : Nat) (a9 : Nat) (a10 : Nat) (a11 : Nat) (a16 : Nat) (a17 : Nat) (a18 : Nat) (a19 : Nat) (a20 : Nat) (a21 : Nat) (a22 : Nat) (a25 : Nat) (nc : Nat) (ni : Nat) (nt : Nat) (mn : Nat) (np : Nat) (nm : Nat) (rm : Nat) (par : Nat → Int) (pw : Nat → Nat) (c : Nat) (hnc : nc ≤ 12) (hni : ni ≤ 20) (hnt : nt ≤ 8) (hmn : mn ≤ 9999) (hnp : np ≤ 6) (rpar : ∀ j, -1 ≤ par j ∧ par j < 12) (hpp : ∀ j, j < nc → par j < j) (hpd : ∀ j, j < nc → (pc12 (pw j) : Int) = 1 + (if par j = -1 then 0 else (pc12 (pw (par j).toNat) : Int))) (hpb : ∀ j k, j < nc → (pw j).testBit k = (decide (k = j) || (decide (par j ≠ -1) && (pw (par j).toNat).testBit k))) (hc : c < nc) : HC G l yX7_depthOf wsX7_depthOf 0 0 0 0 [.ref y, .int (iI (((c : Nat) : Int)))] [(y, .inr (9, [.int (iI (th)), .ref a1, .ref a2, .ref a3, .ref a4, .ref a5, .ref a6, .ref a7, .ref a8, .ref a9, .ref a10, .ref a11, .int (iI (((nc : Nat) : Int))), .int (iI (((ni : Nat) : Int))), .int (iI (((nt : Nat) : Int))), .int (iI (((mn : Nat) : Int))), .ref a16, .ref a17, .ref a18, .ref a19, .ref a20, .ref a21, .ref a22, .int (iI (((np : Nat) : Int))), .int (iI (((nm : Nat) : Int))), .ref a25, .int (iI (((rm : Nat) : Int)))])), (a1, cI G 12 par)] (rt (some (.int (iI (((pc12 (pw c) : Nat) : Int) - 1)))) [(y, .inr (9, [.int (iI (th)), .ref a1, .ref a2, .ref a3, .ref a4, .ref a5, .ref a6, .ref a7, .ref a8, .ref a9, .ref a10, .ref a11, .int (iI (((nc : Nat) : Int))), .int (iI (((ni : Nat) : Int))), .int (iI (((nt : Nat) : Int))), .int (iI (((mn : Nat) : Int))), .ref a16, .ref a17, .ref a18, .ref a19, .ref a20, .ref a21, .ref a22, .int (iI (((np : Nat) : Int))), .int (iI (((nm : Nat) : Int))), .ref a25, .int (iI (((rm : Nat) : Int)))])), (a1, cI G 12 par)]) := by
  refine kz_start cX7_depthOf 4 (some .int) [(0, .ref y), (1, .int (iI (((c : Nat) : Int))))] hlt (by decide) rfl (Nat.le_of_ble_eq_true rfl) rfl (fun X fx rx => ?_)
  refine kz_iconst (pc := 0) fx dX7_depthOf_0 ?_
  refine kz_istore_n (pc := 1) (lv' := [(2, .int (iI (0))), (0, .ref y), (1, .int (iI (((c : Nat) : Int))))]) fx dX7_depthOf_1 rfl (by decide) rfl ?_
  refine kz_aload_n (pc := 2) fx 1 dX7_depthOf_2 rfl ?_
  refine kz_get (pc := 3) (ci := 9) (C := RX7) (T := TX7) (N := 27) (ref := "StatusboardModel") (v := .ref a1) fx 0 1 rfl rfl (fun u h => List.mem_cons_of_mem _ (pu_X7 u h)) (by decide) (List.mem_cons_of_mem _ (pt_5 6 rfl rfl)) rfl rfl dX7_depthOf_3 ?_
  refine kz_iload_n (pc := 6) fx 2 dX7_depthOf_6 rfl ?_
  refine kz_iald (pc := 7) (f := par) fx 1 c rfl rfl (by omega) (by decide) dX7_depthOf_7 ?_
  have r_1 := rpar c
  refine kz_istore_n (pc := 8) (lv' := [(3, .int (iI (par c))), (2, .int (iI (0))), (0, .ref y), (1, .int (iI (((c : Nat) : Int))))]) fx dX7_depthOf_8 rfl (by decide) rfl ?_
  refine KK.sub (ks := [2, 3, 1, 0]) (lv' := [(0, .ref y), (1, .int (iI (((c : Nat) : Int)))), (2, .int (iI (0))), (3, .int (iI (par c)))]) rfl ?_
  have e_2 : (0 : Int) = ((0 : Nat) : Int) := by first | rfl | omega
  have e_3 : (par c : Int) = ((par c)) := by first | rfl | omega
  refine KK.lve (lv' := [(0, .ref y), (1, .int (iI (((c : Nat) : Int)))), (2, .int (iI (((0 : Nat) : Int)))), (3, .int (iI (((par c)))))]) (lv_k (lv_k (lv_c e_2 (lv_c e_3 rfl)))) ?_
  have i_4 : -1 ≤ ((par c)) ∧ ((par c)) < nc := by have := rpar c; have := hpp c hc; omega
  have i_5 : (0 : Int) + (if ((par c)) = -1 then 0 else (pc12 (pw ((par c)).toNat) : Int)) = (pc12 (pw c) : Int) - 1 := by have := hpd c hc; omega
  refine kz_loop (σ := Nat × Int) (fun z => ((z.2) + 1).toNat) (fun z => (-1 ≤ (z.2) ∧ (z.2) < nc) ∧ (((z.1) : Int) + (if (z.2) = -1 then 0 else (pc12 (pw (z.2).toNat) : Int)) = (pc12 (pw c) : Int) - 1)) (fun z => KK X G [(0, .ref y), (1, .int (iI (((c : Nat) : Int)))), (2, .int (iI ((((z.1) : Nat) : Int)))), (3, .int (iI ((z.2))))] [(y, .inr (9, [.int (iI (th)), .ref a1, .ref a2, .ref a3, .ref a4, .ref a5, .ref a6, .ref a7, .ref a8, .ref a9, .ref a10, .ref a11, .int (iI (((nc : Nat) : Int))), .int (iI (((ni : Nat) : Int))), .int (iI (((nt : Nat) : Int))), .int (iI (((mn : Nat) : Int))), .ref a16, .ref a17, .ref a18, .ref a19, .ref a20, .ref a21, .ref a22, .int (iI (((np : Nat) : Int))), .int (iI (((nm : Nat) : Int))), .ref a25, .int (iI (((rm : Nat) : Int)))])), (a1, cI G 12 par)] 0 0 9 []) ?_ (0, (par c)) ⟨i_4, i_5⟩
  rintro ⟨m, d⟩ ⟨hd, hm⟩ ih_9
  have hd : -1 ≤ d ∧ d < nc := hd
  have hm : (m : Int) + (if d = -1 then 0 else (pc12 (pw d.toNat) : Int)) = (pc12 (pw c) : Int) - 1 := hm
  show KK X G [(0, .ref y), (1, .int (iI (((c : Nat) : Int)))), (2, .int (iI (((m : Nat) : Int)))), (3, .int (iI (d)))] [(y, .inr (9, [.int (iI (th)), .ref a1, .ref a2, .ref a3, .ref a4, .ref a5, .ref a6, .ref a7, .ref a8, .ref a9, .ref a10, .ref a11, .int (iI (((nc : Nat) : Int))), .int (iI (((ni : Nat) : Int))), .int (iI (((nt : Nat) : Int))), .int (iI (((mn : Nat) : Int))), .ref a16, .ref a17, .ref a18, .ref a19, .ref a20, .ref a21, .ref a22, .int (iI (((np : Nat) : Int))), .int (iI (((nm : Nat) : Int))), .ref a25, .int (iI (((rm : Nat) : Int)))])), (a1, cI G 12 par)] 0 0 9 []
  have hdr := pc12_le (pw c)
  refine kz_iload_n (pc := 9) fx 3 dX7_depthOf_9 rfl ?_
  refine kz_iconst (pc := 10) fx dX7_depthOf_10 ?_
  refine kz_icmp_eq (pc := 11) fx 27 dX7_depthOf_11 (by decide) ⟨by omega, by omega⟩ ⟨by decide, by decide⟩ (fun h_11 => ?_) (fun h_11 => ?_)
  · refine kz_iload_n (pc := 27) fx 2 dX7_depthOf_27 rfl ?_
    rw [if_pos h_11] at hm
    refine kz_iret (pc := 28) fx rx dX7_depthOf_28 (by decide) (by decide) ?_
    exact rt_i (by omega) (rfl)
  · refine kz_iinc (pc := 14) (k := 2) (lv' := [(2, .int (iI (((m : Nat) : Int) + 1))), (0, .ref y), (1, .int (iI (((c : Nat) : Int)))), (3, .int (iI (d)))]) fx dX7_depthOf_14 rfl (by decide) rfl ?_
    refine kz_aload_n (pc := 17) fx 1 dX7_depthOf_17 rfl ?_
    refine kz_get (pc := 18) (ci := 9) (C := RX7) (T := TX7) (N := 27) (ref := "StatusboardModel") (v := .ref a1) fx 0 1 rfl rfl (fun u h => List.mem_cons_of_mem _ (pu_X7 u h)) (by decide) (List.mem_cons_of_mem _ (pt_5 6 rfl rfl)) rfl rfl dX7_depthOf_18 ?_
    refine kz_iload_n (pc := 21) fx 3 dX7_depthOf_21 rfl ?_
    refine kz_iald (pc := 22) (f := par) fx 1 ((d).toNat) rfl (by omega) (by omega) (by decide) dX7_depthOf_22 ?_
    have r_6 := rpar ((d).toNat)
    refine kz_istore_n (pc := 23) (lv' := [(3, .int (iI (par ((d).toNat)))), (2, .int (iI (((m : Nat) : Int) + 1))), (0, .ref y), (1, .int (iI (((c : Nat) : Int))))]) fx dX7_depthOf_23 rfl (by decide) rfl ?_
    refine kz_goto (pc := 24) (tgt := 9) fx dX7_depthOf_24 (by decide) ?_
    refine KK.sub (ks := [2, 3, 1, 0]) (lv' := [(0, .ref y), (1, .int (iI (((c : Nat) : Int)))), (2, .int (iI (((m : Nat) : Int) + 1))), (3, .int (iI (par ((d).toNat))))]) rfl ?_
    have e_7 : (((m : Nat) : Int) + 1 : Int) = ((((m + 1)) : Nat) : Int) := by first | rfl | omega
    have e_8 : (par ((d).toNat) : Int) = ((par d.toNat)) := by first | rfl | omega
    refine KK.lve (lv' := [(0, .ref y), (1, .int (iI (((c : Nat) : Int)))), (2, .int (iI (((((m + 1)) : Nat) : Int)))), (3, .int (iI (((par d.toNat)))))]) (lv_k (lv_k (lv_c e_7 (lv_c e_8 rfl)))) ?_
    have q_9 : -1 ≤ ((par d.toNat)) ∧ ((par d.toNat)) < nc := by have := rpar d.toNat; have := hpp d.toNat (by omega); omega
    have q_10 : (((m + 1)) : Int) + (if ((par d.toNat)) = -1 then 0 else (pc12 (pw ((par d.toNat)).toNat) : Int)) = (pc12 (pw c) : Int) - 1 := by
        have h9 := hpd d.toNat (by omega)
        rw [if_neg h_11] at hm
        push_cast
        omega
    have m_11 : (((par d.toNat)) + 1).toNat < (d + 1).toNat := by have := hpp d.toNat (by omega); omega
    exact ih_9 ((m + 1), (par d.toNat)) ⟨q_9, q_10⟩ m_11
