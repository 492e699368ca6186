/-! MAILS to a person: only the people of the facts need a bound. -/
set_option maxRecDepth 100000 in
set_option maxHeartbeats 4000000 in
/-- countTo, of the people alone -/
theorem c_countTo2 (G : GX) (l : Launch) (hlt : l.stackTraces = false) (tml : Nat) (f1 : Nat) (nm : Nat) (cap : Nat) (fac : Nat → Int) (x : Int) (hcap : cap < 65536) (hnm : 4 * nm ≤ cap) (rfac : ∀ k, k < nm → -2147483648 ≤ fac (k * 4 + 0) ∧ fac (k * 4 + 0) < 2147483648) (hx : -2147483648 ≤ x ∧ x < 2147483648) : HC G l yX2_countTo wsX2_countTo 1 22 0 0 [.ref tml, .int (iI (x))] [(tml, .inr (4, [.int (iI (((nm : Nat) : Int))), .ref f1])), (f1, cI G cap fac)] (rt (some (.int (iI (((cN (fun k => decide (fac (k * 4 + 0) = x)) nm : Nat) : Int))))) [(tml, .inr (4, [.int (iI (((nm : Nat) : Int))), .ref f1])), (f1, cI G cap fac)]) := by
  refine kz_start cX2_countTo 4 (some .int) [(0, .ref tml), (1, .int (iI (x)))] hlt (by decide) rfl (Nat.le_of_ble_eq_true rfl) rfl (fun X fx rx => ?_)
  refine kz_iconst (pc := 0) fx dX2_countTo_0 ?_
  refine kz_istore_n (pc := 1) (lv' := [(2, .int (iI (0))), (0, .ref tml), (1, .int (iI (x)))]) fx dX2_countTo_1 rfl (by decide) rfl ?_
  refine kz_iconst (pc := 2) fx dX2_countTo_2 ?_
  refine kz_istore_n (pc := 3) (lv' := [(3, .int (iI (0))), (2, .int (iI (0))), (0, .ref tml), (1, .int (iI (x)))]) fx dX2_countTo_3 rfl (by decide) rfl ?_
  refine KK.sub (ks := [2, 3, 1, 0]) (lv' := [(0, .ref tml), (1, .int (iI (x))), (2, .int (iI (0))), (3, .int (iI (0)))]) rfl ?_
  refine kz_loop (σ := Nat) (fun i => nm - i) (fun i => i ≤ nm) (fun i => KK X G [(0, .ref tml), (1, .int (iI (x))), (2, .int (iI (((cN (fun k => decide (fac (k * 4 + 0) = x)) i : Nat) : Int)))), (3, .int (iI (((i : Nat) : Int))))] [(tml, .inr (4, [.int (iI (((nm : Nat) : Int))), .ref f1])), (f1, cI G cap fac)] 0 0 4 []) ?_ 0 (by omega)
  intro i hI_4 ih_4
  have hle_4 : i ≤ nm := hI_4
  show KK X G [(0, .ref tml), (1, .int (iI (x))), (2, .int (iI (((cN (fun k => decide (fac (k * 4 + 0) = x)) i : Nat) : Int)))), (3, .int (iI (((i : Nat) : Int))))] [(tml, .inr (4, [.int (iI (((nm : Nat) : Int))), .ref f1])), (f1, cI G cap fac)] 0 0 4 []
  have hcn := cN_le (fun k => decide (fac (k * 4 + 0) = x)) i
  refine kz_iload_n (pc := 4) fx 3 dX2_countTo_4 rfl ?_
  refine kz_aload_n (pc := 5) fx 0 dX2_countTo_5 rfl ?_
  refine kz_get (pc := 6) (ci := 4) (C := RX2) (T := TX2) (N := 2) (ref := "Statusboard$Mails") (v := .int (iI (((nm : Nat) : Int)))) fx 0 0 rfl rfl (fun u h => List.mem_cons_of_mem _ (pu_X2 u h)) (by decide) (List.mem_cons_of_mem _ (pt_1 145 rfl rfl)) rfl rfl dX2_countTo_6 ?_
  refine kz_icmp_ge (pc := 9) fx 31 dX2_countTo_9 (by decide) ⟨by omega, by omega⟩ ⟨by omega, by omega⟩ (fun h_9 => ?_) (fun h_9 => ?_)
  · refine kz_iload_n (pc := 31) fx 2 dX2_countTo_31 rfl ?_
    refine kz_iret (pc := 32) fx rx dX2_countTo_32 (by decide) (by decide) ?_
    exact rt_i (by rw [show i = nm by omega]) (rfl)
  · refine kz_aload_n (pc := 12) fx 0 dX2_countTo_12 rfl ?_
    refine kz_iload_n (pc := 13) fx 3 dX2_countTo_13 rfl ?_
    refine kz_iconst (pc := 14) fx dX2_countTo_14 ?_
    refine kz_callV (pc := 15) (As := [.int (iI (((i : Nat) : Int))), .int (iI (0))]) (st := []) (q0 := 0) (wc := [(tml, .inr (4, [.int (iI (((nm : Nat) : Int))), .ref f1])), (f1, cI G cap fac)]) fx (c_fact G l hlt tml f1 nm cap fac i 0 hcap (by first | assumption | omega)) rt_ne (gu_V (pt_4 169 rfl rfl) (pt_4 170 rfl rfl) (pt_4 171 rfl rfl) (pt_1 6 rfl rfl) (pt_4 172 rfl rfl)) rfl ⟨rfl, by decide, by decide, rfl⟩ (by decide) [0, 1] (by decide +kernel) rfl rfl rfl rfl (Nat.le_of_ble_eq_true rfl) dX2_countTo_15 (by decide) (by decide) (kc_rt9 (r := some (.int (iI (fac (i * 4 + 0))))) (w1 := [(tml, .inr (4, [.int (iI (((nm : Nat) : Int))), .ref f1])), (f1, cI G cap fac)]) (w' := [(tml, .inr (4, [.int (iI (((nm : Nat) : Int))), .ref f1])), (f1, cI G cap fac)]) (is9 := [0, 1]) (isR := []) (N9 := 2) (wR := []) (stk' := [.int (iI (fac (i * 4 + 0)))]) rfl (by decide +kernel) rfl rfl (by decide +kernel) rfl ?_)
    have rf9 := rfac i (by omega)
    refine kz_iload_n (pc := 18) fx 1 dX2_countTo_18 rfl ?_
    refine kz_icmp_ne (pc := 19) fx 25 dX2_countTo_19 (by decide) ⟨by omega, by omega⟩ ⟨by omega, by omega⟩ (fun h_19 => ?_) (fun h_19 => ?_)
    · refine kz_iinc (pc := 25) (k := 3) (lv' := [(3, .int (iI (((i : Nat) : Int) + 1))), (0, .ref tml), (1, .int (iI (x))), (2, .int (iI (((cN (fun k => decide (fac (k * 4 + 0) = x)) i : Nat) : Int))))]) fx dX2_countTo_25 rfl (by decide) rfl ?_
      refine kz_goto (pc := 28) (tgt := 4) fx dX2_countTo_28 (by decide) ?_
      refine KK.sub (ks := [1, 2, 3, 0]) (lv' := [(0, .ref tml), (1, .int (iI (x))), (2, .int (iI (((cN (fun k => decide (fac (k * 4 + 0) = x)) i : Nat) : Int)))), (3, .int (iI (((i : Nat) : Int) + 1)))]) rfl ?_
      have e_1 : (((cN (fun k => decide (fac (k * 4 + 0) = x)) i : Nat) : Int) : Int) = ((cN (fun k => decide (fac (k * 4 + 0) = x)) ((i + 1)) : Nat) : Int) := by first | (rw [cN_t (by simp_all)]; omega) | (rw [cN_f (by simp_all)])
      have e_2 : (((i : Nat) : Int) + 1 : Int) = ((((i + 1)) : Nat) : Int) := by rfl
      refine KK.lve (lv' := [(0, .ref tml), (1, .int (iI (x))), (2, .int (iI (((cN (fun k => decide (fac (k * 4 + 0) = x)) ((i + 1)) : Nat) : Int)))), (3, .int (iI (((((i + 1)) : Nat) : Int))))]) (lv_k (lv_k (lv_c e_1 (lv_c e_2 rfl)))) ?_
      exact ih_4 (i + 1) (by omega) (by omega)
    · refine kz_iinc (pc := 22) (k := 2) (lv' := [(2, .int (iI (((cN (fun k => decide (fac (k * 4 + 0) = x)) i : Nat) : Int) + 1))), (0, .ref tml), (1, .int (iI (x))), (3, .int (iI (((i : Nat) : Int))))]) fx dX2_countTo_22 rfl (by decide) rfl ?_
      refine kz_iinc (pc := 25) (k := 3) (lv' := [(3, .int (iI (((i : Nat) : Int) + 1))), (2, .int (iI (((cN (fun k => decide (fac (k * 4 + 0) = x)) i : Nat) : Int) + 1))), (0, .ref tml), (1, .int (iI (x)))]) fx dX2_countTo_25 rfl (by decide) rfl ?_
      refine kz_goto (pc := 28) (tgt := 4) fx dX2_countTo_28 (by decide) ?_
      refine KK.sub (ks := [2, 3, 1, 0]) (lv' := [(0, .ref tml), (1, .int (iI (x))), (2, .int (iI (((cN (fun k => decide (fac (k * 4 + 0) = x)) i : Nat) : Int) + 1))), (3, .int (iI (((i : Nat) : Int) + 1)))]) rfl ?_
      have e_3 : (((cN (fun k => decide (fac (k * 4 + 0) = x)) i : Nat) : Int) + 1 : Int) = ((cN (fun k => decide (fac (k * 4 + 0) = x)) ((i + 1)) : Nat) : Int) := by first | (rw [cN_t (by simp_all)]; omega) | (rw [cN_f (by simp_all)])
      have e_4 : (((i : Nat) : Int) + 1 : Int) = ((((i + 1)) : Nat) : Int) := by rfl
      refine KK.lve (lv' := [(0, .ref tml), (1, .int (iI (x))), (2, .int (iI (((cN (fun k => decide (fac (k * 4 + 0) = x)) ((i + 1)) : Nat) : Int)))), (3, .int (iI (((((i + 1)) : Nat) : Int))))]) (lv_k (lv_k (lv_c e_3 (lv_c e_4 rfl)))) ?_
      exact ih_4 (i + 1) (by omega) (by omega)
set_option maxRecDepth 100000 in
set_option maxHeartbeats 4000000 in
/-- mailsTo, of the people alone -/
theorem c_x_mailsTo2 (G : GX) (l : Launch) (hlt : l.stackTraces = false) (x : Nat) (t : Nat) (tp : Nat) (ti : Nat) (tm : Nat) (tml : Nat) (tb : Nat) (tn : Nat) (mn : Nat) (f1 : Nat) (nm : Nat) (cap : Nat) (fac : Nat → Int) (p1 : Nat) (p2 : Nat) (np : Nat) (z : Int) (hmn : mn ≤ 9999) (hcap : cap < 32768) (hnm4 : 4 * nm ≤ cap) (hnp : np ≤ 6) (hz : -2147483648 ≤ z ∧ z < 2147483648) (hnm : nm ≤ 3072) (rfac : ∀ k, k < nm → -2147483648 ≤ fac (k * 4 + 0) ∧ fac (k * 4 + 0) < 2147483648) : HC G l yX6_mailsTo wsX6_mailsTo 7 111 6 36 [.ref x, .int (iI (z))] [(x, .inr (8, [.ref t, .ref tp, .ref ti, .ref tm, .ref tml, .ref tb, .ref tn, .int (iI (((mn : Nat) : Int)))])), (tml, .inr (4, [.int (iI (((nm : Nat) : Int))), .ref f1])), (f1, cI G cap fac), (tp, .inr (6, [.int (iI (((np : Nat) : Int))), .ref p1, .ref p2]))] (fun (o9 : OC) (w9 : va_W) => ((cdIdx np z = 0) ∧ o9 = .inl (some (.int (iI (((cN (fun k => decide (fac (k * 4 + 0) = z)) nm : Nat) : Int))))) ∧ w9 = [(x, .inr (8, [.ref t, .ref tp, .ref ti, .ref tm, .ref tml, .ref tb, .ref tn, .int (iI (((mn : Nat) : Int)))])), (tml, .inr (4, [.int (iI (((nm : Nat) : Int))), .ref f1])), (f1, cI G cap fac), (tp, .inr (6, [.int (iI (((np : Nat) : Int))), .ref p1, .ref p2]))]) ∨ ((cdIdx np z = 1) ∧ o9 = .inr "java/util/NoSuchElementException" ∧ w9 = [(x, .inr (8, [.ref t, .ref tp, .ref ti, .ref tm, .ref tml, .ref tb, .ref tn, .int (iI (((mn : Nat) : Int)))])), (tml, .inr (4, [.int (iI (((nm : Nat) : Int))), .ref f1])), (f1, cI G cap fac), (tp, .inr (6, [.int (iI (((np : Nat) : Int))), .ref p1, .ref p2]))])) := by
  refine kz_start cX6_mailsTo 2 (some .int) [(0, .ref x), (1, .int (iI (z)))] hlt (by decide) rfl (Nat.le_of_ble_eq_true rfl) rfl (fun X fx rx => ?_)
  refine kz_aload_n (pc := 0) fx 0 dX6_mailsTo_0 rfl ?_
  refine kz_iload_n (pc := 1) fx 1 dX6_mailsTo_1 rfl ?_
  refine kz_callVX (pc := 2) (As := [.int (iI (z))]) (st := []) (q0 := 0) (wc := [(x, .inr (8, [.ref t, .ref tp, .ref ti, .ref tm, .ref tml, .ref tb, .ref tn, .int (iI (((mn : Nat) : Int)))])), (tp, .inr (6, [.int (iI (((np : Nat) : Int))), .ref p1, .ref p2]))]) fx (c_needPerson G l hlt x t tp ti tm tml tb tn mn p1 p2 np z hmn hnp hz) (gu_V (pt_2 178 rfl rfl) (pt_2 180 rfl rfl) (pt_s 2 rfl rfl) (pt_1 1 rfl rfl) (pt_2 181 rfl rfl)) rfl ⟨rfl, by decide, by decide, rfl⟩ (by decide) [0, 3] (by decide +kernel) rfl rfl rfl rfl (Nat.le_of_ble_eq_true rfl) dX6_mailsTo_2 (by decide) (by decide) (fun E9 w9 hp9 => ?_) (fun r9 w9 hp9 => ?_)
  · rcases hp9 with ⟨v_2, h8, h9⟩ | ⟨v_3, h8, h9⟩
    · cases h8
    · cases h8
      subst h9
      refine kt_perm9 (w' := [(x, .inr (8, [.ref t, .ref tp, .ref ti, .ref tm, .ref tml, .ref tb, .ref tn, .int (iI (((mn : Nat) : Int)))])), (tml, .inr (4, [.int (iI (((nm : Nat) : Int))), .ref f1])), (f1, cI G cap fac), (tp, .inr (6, [.int (iI (((np : Nat) : Int))), .ref p1, .ref p2]))]) (is9 := [2, 0, 1, 3]) (isR := [1, 2]) (N9 := 4) (wR := [(tml, .inr (4, [.int (iI (((nm : Nat) : Int))), .ref f1])), (f1, cI G cap fac)]) rfl (by decide +kernel) rfl (by decide +kernel) rfl ?_
      refine kz_out fx rx (by decide) (by decide) ?_
      exact Or.inr (⟨(by unfold cdIdx; (repeat' split) <;> first | rfl | omega | (simp_all; done) | (simp_all; omega)), rfl, (rfl)⟩)
  · rcases hp9 with ⟨v_4, h8, h9⟩ | ⟨v_5, h8, h9⟩
    · refine kc_rt9 (r := none) (w1 := [(x, .inr (8, [.ref t, .ref tp, .ref ti, .ref tm, .ref tml, .ref tb, .ref tn, .int (iI (((mn : Nat) : Int)))])), (tp, .inr (6, [.int (iI (((np : Nat) : Int))), .ref p1, .ref p2]))]) (w' := [(x, .inr (8, [.ref t, .ref tp, .ref ti, .ref tm, .ref tml, .ref tb, .ref tn, .int (iI (((mn : Nat) : Int)))])), (tml, .inr (4, [.int (iI (((nm : Nat) : Int))), .ref f1])), (f1, cI G cap fac), (tp, .inr (6, [.int (iI (((np : Nat) : Int))), .ref p1, .ref p2]))]) (is9 := [2, 0, 1, 3]) (isR := [1, 2]) (N9 := 4) (wR := [(tml, .inr (4, [.int (iI (((nm : Nat) : Int))), .ref f1])), (f1, cI G cap fac)]) (stk' := []) rfl (by decide +kernel) rfl rfl (by decide +kernel) rfl ?_ _ _ ⟨h8, h9⟩
      refine kz_aload_n (pc := 5) fx 0 dX6_mailsTo_5 rfl ?_
      refine kz_get (pc := 6) (ci := 8) (C := RX6) (T := TX6) (N := 8) (ref := "Statusboard") (v := .ref tml) fx 0 4 rfl rfl (fun u h => List.mem_cons_of_mem _ (pu_X6 u h)) (by decide) (List.mem_cons_of_mem _ (pt_1 177 rfl rfl)) rfl rfl dX6_mailsTo_6 ?_
      refine kz_iload_n (pc := 9) fx 1 dX6_mailsTo_9 rfl ?_
      refine kz_callV (pc := 10) (As := [.int (iI (z))]) (st := []) (q0 := 0) (wc := [(tml, .inr (4, [.int (iI (((nm : Nat) : Int))), .ref f1])), (f1, cI G cap fac)]) fx (c_countTo2 G l hlt tml f1 nm cap fac z (by first | assumption | omega) hnm4 rfac hz) rt_ne (gu_V (pt_4 165 rfl rfl) (pt_4 166 rfl rfl) (pt_4 167 rfl rfl) (pt_1 6 rfl rfl) (pt_4 168 rfl rfl)) rfl ⟨rfl, by decide, by decide, rfl⟩ (by decide) [1, 2] (by decide +kernel) rfl rfl rfl rfl (Nat.le_of_ble_eq_true rfl) dX6_mailsTo_10 (by decide) (by decide) (kc_rt9 (r := some (.int (iI (((cN (fun k => decide (fac (k * 4 + 0) = z)) nm : Nat) : Int))))) (w1 := [(tml, .inr (4, [.int (iI (((nm : Nat) : Int))), .ref f1])), (f1, cI G cap fac)]) (w' := [(x, .inr (8, [.ref t, .ref tp, .ref ti, .ref tm, .ref tml, .ref tb, .ref tn, .int (iI (((mn : Nat) : Int)))])), (tml, .inr (4, [.int (iI (((nm : Nat) : Int))), .ref f1])), (f1, cI G cap fac), (tp, .inr (6, [.int (iI (((np : Nat) : Int))), .ref p1, .ref p2]))]) (is9 := [0, 2, 3, 1]) (isR := [0, 3]) (N9 := 4) (wR := [(x, .inr (8, [.ref t, .ref tp, .ref ti, .ref tm, .ref tml, .ref tb, .ref tn, .int (iI (((mn : Nat) : Int)))])), (tp, .inr (6, [.int (iI (((np : Nat) : Int))), .ref p1, .ref p2]))]) (stk' := [.int (iI (((cN (fun k => decide (fac (k * 4 + 0) = z)) nm : Nat) : Int)))]) rfl (by decide +kernel) rfl rfl (by decide +kernel) rfl ?_)
      refine kz_iret (pc := 13) fx rx dX6_mailsTo_13 (by decide) (by decide) ?_
      exact Or.inl ⟨(by unfold cdIdx; (repeat' split) <;> first | rfl | omega | (simp_all; done) | (simp_all; omega)), oi (by first | rfl | omega | (simp [*]; done)), (rfl)⟩
    · cases h8
set_option maxRecDepth 100000 in
set_option maxHeartbeats 4000000 in
/-- the law: mailsTo -/
theorem lw_mailsTo2 (G : GX) (l : Launch) (hlt : l.stackTraces = false) (x : Nat) (t : Nat) (tp : Nat) (ti : Nat) (tm : Nat) (tml : Nat) (tb : Nat) (tn : Nat) (mn : Nat) (f1 : Nat) (nm : Nat) (cap : Nat) (fac : Nat → Int) (p1 : Nat) (p2 : Nat) (np : Nat) (z : Int) (o : Nat) (of : Nat → Int64) (hmn : mn ≤ 9999) (hcap : cap < 32768) (hnm4 : 4 * nm ≤ cap) (hnp : np ≤ 6) (hz : -2147483648 ≤ z ∧ z < 2147483648) (hnm : nm ≤ 3072) (rfac : ∀ k, k < nm → -2147483648 ≤ fac (k * 4 + 0) ∧ fac (k * 4 + 0) < 2147483648) : HC G l yL_mailsTo wsL_mailsTo 8 132 6 36 [.ref x, .int (iI (z)), .ref o] [(x, .inr (8, [.ref t, .ref tp, .ref ti, .ref tm, .ref tml, .ref tb, .ref tn, .int (iI (((mn : Nat) : Int)))])), (tml, .inr (4, [.int (iI (((nm : Nat) : Int))), .ref f1])), (f1, cI G cap fac), (tp, .inr (6, [.int (iI (((np : Nat) : Int))), .ref p1, .ref p2])), (o, cL G 1 of)] (fun (o9 : OC) (w9 : va_W) => (∃ of2 : Nat → Int64, (cdIdx np z = 0) ∧ (of2 0 = (iI (((cN (fun k => decide (fac (k * 4 + 0) = z)) nm : Nat) : Int))).toInt64) ∧ o9 = .inl (some (.int (iI (0)))) ∧ w9 = [(x, .inr (8, [.ref t, .ref tp, .ref ti, .ref tm, .ref tml, .ref tb, .ref tn, .int (iI (((mn : Nat) : Int)))])), (tml, .inr (4, [.int (iI (((nm : Nat) : Int))), .ref f1])), (f1, cI G cap fac), (tp, .inr (6, [.int (iI (((np : Nat) : Int))), .ref p1, .ref p2])), (o, cL G 1 of2)]) ∨ (∃ of2 : Nat → Int64, (cdIdx np z = 1) ∧ o9 = .inl (some (.int (iI (1)))) ∧ w9 = [(x, .inr (8, [.ref t, .ref tp, .ref ti, .ref tm, .ref tml, .ref tb, .ref tn, .int (iI (((mn : Nat) : Int)))])), (tml, .inr (4, [.int (iI (((nm : Nat) : Int))), .ref f1])), (f1, cI G cap fac), (tp, .inr (6, [.int (iI (((np : Nat) : Int))), .ref p1, .ref p2])), (o, cL G 1 of2)])) := by
  refine kz_startH cL_mailsTo 4 (some .int) [(0, 9, 12, 13)] [(0, .ref x), (1, .int (iI (z))), (2, .ref o)] hlt (by decide) rfl (Nat.le_of_ble_eq_true rfl) rfl (fun X fx rx => ?_)
  refine kz_aload_n (pc := 0) fx 2 dL_mailsTo_0 rfl ?_
  refine kz_iconst (pc := 1) fx dL_mailsTo_1 ?_
  refine kz_aload_n (pc := 2) fx 0 dL_mailsTo_2 rfl ?_
  refine kz_iload_n (pc := 3) fx 1 dL_mailsTo_3 rfl ?_
  refine kz_callVX (pc := 4) (As := [.int (iI (z))]) (st := [.int (iI (0)), .ref o]) (q0 := 0) (wc := [(x, .inr (8, [.ref t, .ref tp, .ref ti, .ref tm, .ref tml, .ref tb, .ref tn, .int (iI (((mn : Nat) : Int)))])), (tml, .inr (4, [.int (iI (((nm : Nat) : Int))), .ref f1])), (f1, cI G cap fac), (tp, .inr (6, [.int (iI (((np : Nat) : Int))), .ref p1, .ref p2]))]) fx (c_x_mailsTo2 G l hlt x t tp ti tm tml tb tn mn f1 nm cap fac p1 p2 np z hmn hcap hnm4 hnp hz hnm rfac) (gu_V (pt_4 161 rfl rfl) (pt_4 162 rfl rfl) (pt_4 163 rfl rfl) (pt_1 1 rfl rfl) (pt_4 164 rfl rfl)) rfl ⟨rfl, by decide, by decide, rfl⟩ (by decide) [0, 1, 2, 3] (by decide +kernel) rfl rfl rfl rfl (Nat.le_of_ble_eq_true rfl) dL_mailsTo_4 (by decide) (by decide) (fun E9 w9 hp9 => ?_) (fun r9 w9 hp9 => ?_)
  · rcases hp9 with ⟨v_2, h8, h9⟩ | ⟨v_3, h8, h9⟩
    · cases h8
    · cases h8
      subst h9
      refine kt_perm9 (w' := [(x, .inr (8, [.ref t, .ref tp, .ref ti, .ref tm, .ref tml, .ref tb, .ref tn, .int (iI (((mn : Nat) : Int)))])), (tml, .inr (4, [.int (iI (((nm : Nat) : Int))), .ref f1])), (f1, cI G cap fac), (tp, .inr (6, [.int (iI (((np : Nat) : Int))), .ref p1, .ref p2])), (o, cL G 1 of)]) (is9 := [1, 2, 3, 4, 0]) (isR := [4]) (N9 := 5) (wR := [(o, cL G 1 of)]) rfl (by decide +kernel) rfl (by decide +kernel) rfl ?_
      refine kz_catch (pc := 4) fx [] ⟨0, 9, 12, 13⟩ [] rfl (by decide) (fun z hz => by cases hz) (by decide) (by decide) (pt_2 1 rfl rfl) (fun qx_4 => ?_)
      refine kz_astore_n (pc := 12) (lv' := [(3, .ref qx_4), (0, .ref x), (1, .int (iI (z))), (2, .ref o)]) fx dL_mailsTo_12 rfl (by decide) rfl ?_
      refine kz_iconst (pc := 13) fx dL_mailsTo_13 ?_
      refine kz_iret (pc := 14) fx rx dL_mailsTo_14 (by decide) (by decide) ?_
      exact Or.inr (⟨of, (by assumption), oi (by first | rfl | omega | (simp [*]; done)), (rfl)⟩)
  · rcases hp9 with ⟨v_5, h8, h9⟩ | ⟨v_6, h8, h9⟩
    · refine kc_rt9 (r := some (.int (iI (((cN (fun k => decide (fac (k * 4 + 0) = z)) nm : Nat) : Int))))) (w1 := [(x, .inr (8, [.ref t, .ref tp, .ref ti, .ref tm, .ref tml, .ref tb, .ref tn, .int (iI (((mn : Nat) : Int)))])), (tml, .inr (4, [.int (iI (((nm : Nat) : Int))), .ref f1])), (f1, cI G cap fac), (tp, .inr (6, [.int (iI (((np : Nat) : Int))), .ref p1, .ref p2]))]) (w' := [(x, .inr (8, [.ref t, .ref tp, .ref ti, .ref tm, .ref tml, .ref tb, .ref tn, .int (iI (((mn : Nat) : Int)))])), (tml, .inr (4, [.int (iI (((nm : Nat) : Int))), .ref f1])), (f1, cI G cap fac), (tp, .inr (6, [.int (iI (((np : Nat) : Int))), .ref p1, .ref p2])), (o, cL G 1 of)]) (is9 := [1, 2, 3, 4, 0]) (isR := [4]) (N9 := 5) (wR := [(o, cL G 1 of)]) (stk' := [.int (iI (((cN (fun k => decide (fac (k * 4 + 0) = z)) nm : Nat) : Int))), .int (iI (0)), .ref o]) rfl (by decide +kernel) rfl rfl (by decide +kernel) rfl ?_ _ _ ⟨h8, h9⟩
      refine kz_i2lr (pc := 7) fx dL_mailsTo_7 ?_
      refine kz_last0 (pc := 8) (w' := [(x, .inr (8, [.ref t, .ref tp, .ref ti, .ref tm, .ref tml, .ref tb, .ref tn, .int (iI (((mn : Nat) : Int)))])), (tml, .inr (4, [.int (iI (((nm : Nat) : Int))), .ref f1])), (f1, cI G cap fac), (tp, .inr (6, [.int (iI (((np : Nat) : Int))), .ref p1, .ref p2])), (o, cL G 1 (vp_updL of 0 ((iI (((cN (fun k => decide (fac (k * 4 + 0) = z)) nm : Nat) : Int))).toInt64)))]) fx 4 rfl dL_mailsTo_8 rfl ?_
      refine kz_goto (pc := 9) (tgt := 15) fx dL_mailsTo_9 (by decide) ?_
      refine kz_iconst (pc := 15) fx dL_mailsTo_15 ?_
      refine kz_iret (pc := 16) fx rx dL_mailsTo_16 (by decide) (by decide) ?_
      exact Or.inl ⟨(vp_updL of 0 ((iI (((cN (fun k => decide (fac (k * 4 + 0) = z)) nm : Nat) : Int))).toInt64)), (by assumption), (by exact pk_uLs), oi (by first | rfl | omega | (simp [*]; done)), (rfl)⟩
    · cases h8
