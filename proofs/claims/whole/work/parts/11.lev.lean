/-! LEVELS -/
set_option maxRecDepth 100000 in
set_option maxHeartbeats 4000000 in
/-- Arrays.fill -/
theorem c_fill (G : GX) (l : Launch) (hlt : l.stackTraces = false) (a : Nat) (n : Nat) (f : Nat → Int) (v : Int) (hn : n < 65536) (hv : -2147483648 ≤ v ∧ v < 2147483648) : HC G l yJ7_fill_53178 wsJ7_fill_53178 0 0 0 0 [.ref a, .int (iI (v))] [(a, cI G n f)] (rt none [(a, cI G n (fun _ => v))]) := by
  refine kz_start cJ7_fill_53178 4 none [(0, .ref a), (1, .int (iI (v)))] hlt (by decide) rfl (Nat.le_of_ble_eq_true rfl) rfl (fun X fx rx => ?_)
  refine kz_iconst (pc := 0) fx dJ7_fill_53178_0 ?_
  refine kz_istore_n (pc := 1) (lv' := [(2, .int (iI (0))), (0, .ref a), (1, .int (iI (v)))]) fx dJ7_fill_53178_1 rfl (by decide) rfl ?_
  refine kz_aload_n (pc := 2) fx 1 dJ7_fill_53178_2 rfl ?_
  refine kz_ialen (pc := 3) fx 0 rfl dJ7_fill_53178_3 ?_
  refine kz_istore_n (pc := 4) (lv' := [(3, .int (iI (((n : Nat) : Int)))), (2, .int (iI (0))), (0, .ref a), (1, .int (iI (v)))]) fx dJ7_fill_53178_4 rfl (by decide) rfl ?_
  refine KK.sub (ks := [2, 3, 1, 0]) (lv' := [(0, .ref a), (1, .int (iI (v))), (2, .int (iI (0))), (3, .int (iI (((n : Nat) : Int))))]) rfl ?_
  have e_1 : (0 : Int) = ((0 : Nat) : Int) := by first | rfl | omega
  refine KK.lve (lv' := [(0, .ref a), (1, .int (iI (v))), (2, .int (iI (((0 : Nat) : Int)))), (3, .int (iI (((n : Nat) : Int))))]) (lv_k (lv_k (lv_c e_1 (lv_k rfl)))) ?_
  have i_2 : 0 ≤ n := Nat.zero_le n
  have i_3 : ∀ j, j < 0 → f j = v := fun j hj => absurd hj (Nat.not_lt_zero j)
  refine kz_loop (σ := Nat × (Nat → Int)) (fun z => n - (z.1)) (fun z => (z.1) ≤ n ∧ ∀ j, j < (z.1) → (z.2) j = v) (fun z => KK X G [(0, .ref a), (1, .int (iI (v))), (2, .int (iI ((((z.1) : Nat) : Int)))), (3, .int (iI (((n : Nat) : Int))))] [(a, cI G n (z.2))] 0 0 5 []) ?_ (0, f) ⟨i_2, i_3⟩
  rintro ⟨i, g⟩ ⟨hi, hg⟩ ih_5
  have hi : i ≤ n := hi
  have hg : ∀ j, j < i → g j = v := hg
  show KK X G [(0, .ref a), (1, .int (iI (v))), (2, .int (iI (((i : Nat) : Int)))), (3, .int (iI (((n : Nat) : Int))))] [(a, cI G n g)] 0 0 5 []
  refine kz_iload_n (pc := 5) fx 2 dJ7_fill_53178_5 rfl ?_
  refine kz_iload_n (pc := 6) fx 3 dJ7_fill_53178_6 rfl ?_
  refine kz_icmp_ge (pc := 7) fx 20 dJ7_fill_53178_7 (by decide) ⟨by omega, by omega⟩ ⟨by omega, by omega⟩ (fun h_7 => ?_) (fun h_7 => ?_)
  · refine KK.cong (f := g) (g := (fun _ => v)) (w' := [(a, cI G n (fun _ => v))]) 0 rfl (fun j hj => hg j (by omega)) rfl ?_
    refine kz_vret (pc := 20) fx rx dJ7_fill_53178_20 (by decide) (by decide) ?_
    exact ⟨rfl, rfl⟩
  · refine kz_aload_n (pc := 10) fx 0 dJ7_fill_53178_10 rfl ?_
    refine kz_iload_n (pc := 11) fx 2 dJ7_fill_53178_11 rfl ?_
    refine kz_iload_n (pc := 12) fx 1 dJ7_fill_53178_12 rfl ?_
    refine kz_iast (pc := 13) (f := g) (w' := [(a, cI G n (zup g i v))]) fx 0 i rfl rfl (by omega) (by omega) dJ7_fill_53178_13 rfl ?_
    refine kz_iinc (pc := 14) (k := 2) (lv' := [(2, .int (iI (((i : Nat) : Int) + 1))), (0, .ref a), (1, .int (iI (v))), (3, .int (iI (((n : Nat) : Int))))]) fx dJ7_fill_53178_14 rfl (by decide) rfl ?_
    refine kz_goto (pc := 17) (tgt := 5) fx dJ7_fill_53178_17 (by decide) ?_
    refine KK.sub (ks := [1, 2, 0, 3]) (lv' := [(0, .ref a), (1, .int (iI (v))), (2, .int (iI (((i : Nat) : Int) + 1))), (3, .int (iI (((n : Nat) : Int))))]) rfl ?_
    have e_4 : (((i : Nat) : Int) + 1 : Int) = ((((i + 1)) : Nat) : Int) := by first | rfl | omega
    refine KK.lve (lv' := [(0, .ref a), (1, .int (iI (v))), (2, .int (iI (((((i + 1)) : Nat) : Int)))), (3, .int (iI (((n : Nat) : Int))))]) (lv_k (lv_k (lv_c e_4 (lv_k rfl)))) ?_
    have q_5 : ((i + 1)) ≤ n := by omega
    have q_6 : ∀ j, j < ((i + 1)) → (zup g i v) j = v := fun j hj => by
        by_cases hji : j = i
        · subst hji; rw [zup_s]
        · rw [zup_n hji]; exact hg j (by omega)
    have m_7 : n - ((i + 1)) < n - i := by omega
    exact ih_5 ((i + 1), zup g i v) ⟨q_5, q_6⟩ m_7
set_option maxRecDepth 100000 in
set_option maxHeartbeats 4000000 in
/-- clear -/
theorem c_clear (G : GX) (l : Launch) (hlt : l.stackTraces = false) (tl : Nat) (l1 : Nat) (l2 : Nat) (l3 : Nat) (l4 : Nat) (lev : Nat → Int) (gre : Nat → Int) (los : Nat → Int) (wgs : Nat → Int)  : HC G l yX1_clear wsX1_clear 1 23 0 0 [.ref tl] [(tl, .inr (3, [.ref l1, .ref l2, .ref l3, .ref l4])), (l1, cI G 12 lev), (l2, cI G 12 gre), (l3, cI G 12 los), (l4, cI G 12 wgs)] (rt none [(tl, .inr (3, [.ref l1, .ref l2, .ref l3, .ref l4])), (l1, cI G 12 (fun _ => 0)), (l2, cI G 12 (fun _ => 0)), (l3, cI G 12 (fun _ => 0)), (l4, cI G 12 (fun _ => 0))]) := by
  refine kz_start cX1_clear 1 none [(0, .ref tl)] hlt (by decide) rfl (Nat.le_of_ble_eq_true rfl) rfl (fun X fx rx => ?_)
  refine kz_aload_n (pc := 0) fx 0 dX1_clear_0 rfl ?_
  refine kz_get (pc := 1) (ci := 3) (C := RX1) (T := TX1) (N := 4) (ref := "Statusboard$Levels") (v := .ref l1) fx 0 0 rfl rfl (fun u h => List.mem_cons_of_mem _ (pu_X1 u h)) (by decide) (List.mem_cons_of_mem _ (pt_1 159 rfl rfl)) rfl rfl dX1_clear_1 ?_
  refine kz_iconst (pc := 4) fx dX1_clear_4 ?_
  refine kz_callS (pc := 5) (As := [.ref l1, .int (iI (0))]) (st := []) (wc := [(l1, cI G 12 lev)]) fx (c_fill G l hlt l1 12 lev 0 (by first | assumption | omega) (by first | assumption | omega)) rt_ne (gu_S (pt_3 1 rfl rfl) (pt_3 2 rfl rfl) (pt_1 17 rfl rfl) (pt_3 3 rfl rfl)) rfl ⟨by decide, by decide, rfl⟩ (by decide) [1] (by decide) rfl rfl (Nat.le_of_ble_eq_true rfl) dX1_clear_5 (by decide) (by decide) (kc_rt (r := none) (w1 := [(l1, cI G 12 (fun _ => 0))]) (w' := [(tl, .inr (3, [.ref l1, .ref l2, .ref l3, .ref l4])), (l1, cI G 12 (fun _ => 0)), (l2, cI G 12 gre), (l3, cI G 12 los), (l4, cI G 12 wgs)]) (is9 := [0, 4, 1, 2, 3]) (stk' := []) rfl (by decide) rfl ?_)
  refine kz_aload_n (pc := 8) fx 0 dX1_clear_8 rfl ?_
  refine kz_get (pc := 9) (ci := 3) (C := RX1) (T := TX1) (N := 4) (ref := "Statusboard$Levels") (v := .ref l2) fx 0 1 rfl rfl (fun u h => List.mem_cons_of_mem _ (pu_X1 u h)) (by decide) (List.mem_cons_of_mem _ (pt_1 161 rfl rfl)) rfl rfl dX1_clear_9 ?_
  refine kz_iconst (pc := 12) fx dX1_clear_12 ?_
  refine kz_callS (pc := 13) (As := [.ref l2, .int (iI (0))]) (st := []) (wc := [(l2, cI G 12 gre)]) fx (c_fill G l hlt l2 12 gre 0 (by first | assumption | omega) (by first | assumption | omega)) rt_ne (gu_S (pt_3 1 rfl rfl) (pt_3 2 rfl rfl) (pt_1 17 rfl rfl) (pt_3 3 rfl rfl)) rfl ⟨by decide, by decide, rfl⟩ (by decide) [2] (by decide) rfl rfl (Nat.le_of_ble_eq_true rfl) dX1_clear_13 (by decide) (by decide) (kc_rt (r := none) (w1 := [(l2, cI G 12 (fun _ => 0))]) (w' := [(tl, .inr (3, [.ref l1, .ref l2, .ref l3, .ref l4])), (l1, cI G 12 (fun _ => 0)), (l2, cI G 12 (fun _ => 0)), (l3, cI G 12 los), (l4, cI G 12 wgs)]) (is9 := [0, 1, 4, 2, 3]) (stk' := []) rfl (by decide) rfl ?_)
  refine kz_aload_n (pc := 16) fx 0 dX1_clear_16 rfl ?_
  refine kz_get (pc := 17) (ci := 3) (C := RX1) (T := TX1) (N := 4) (ref := "Statusboard$Levels") (v := .ref l3) fx 0 2 rfl rfl (fun u h => List.mem_cons_of_mem _ (pu_X1 u h)) (by decide) (List.mem_cons_of_mem _ (pt_1 162 rfl rfl)) rfl rfl dX1_clear_17 ?_
  refine kz_iconst (pc := 20) fx dX1_clear_20 ?_
  refine kz_callS (pc := 21) (As := [.ref l3, .int (iI (0))]) (st := []) (wc := [(l3, cI G 12 los)]) fx (c_fill G l hlt l3 12 los 0 (by first | assumption | omega) (by first | assumption | omega)) rt_ne (gu_S (pt_3 1 rfl rfl) (pt_3 2 rfl rfl) (pt_1 17 rfl rfl) (pt_3 3 rfl rfl)) rfl ⟨by decide, by decide, rfl⟩ (by decide) [3] (by decide) rfl rfl (Nat.le_of_ble_eq_true rfl) dX1_clear_21 (by decide) (by decide) (kc_rt (r := none) (w1 := [(l3, cI G 12 (fun _ => 0))]) (w' := [(tl, .inr (3, [.ref l1, .ref l2, .ref l3, .ref l4])), (l1, cI G 12 (fun _ => 0)), (l2, cI G 12 (fun _ => 0)), (l3, cI G 12 (fun _ => 0)), (l4, cI G 12 wgs)]) (is9 := [0, 1, 2, 4, 3]) (stk' := []) rfl (by decide) rfl ?_)
  refine kz_aload_n (pc := 24) fx 0 dX1_clear_24 rfl ?_
  refine kz_get (pc := 25) (ci := 3) (C := RX1) (T := TX1) (N := 4) (ref := "Statusboard$Levels") (v := .ref l4) fx 0 3 rfl rfl (fun u h => List.mem_cons_of_mem _ (pu_X1 u h)) (by decide) (List.mem_cons_of_mem _ (pt_1 163 rfl rfl)) rfl rfl dX1_clear_25 ?_
  refine kz_iconst (pc := 28) fx dX1_clear_28 ?_
  refine kz_callS (pc := 29) (As := [.ref l4, .int (iI (0))]) (st := []) (wc := [(l4, cI G 12 wgs)]) fx (c_fill G l hlt l4 12 wgs 0 (by first | assumption | omega) (by first | assumption | omega)) rt_ne (gu_S (pt_3 1 rfl rfl) (pt_3 2 rfl rfl) (pt_1 17 rfl rfl) (pt_3 3 rfl rfl)) rfl ⟨by decide, by decide, rfl⟩ (by decide) [4] (by decide) rfl rfl (Nat.le_of_ble_eq_true rfl) dX1_clear_29 (by decide) (by decide) (kc_rt (r := none) (w1 := [(l4, cI G 12 (fun _ => 0))]) (w' := [(tl, .inr (3, [.ref l1, .ref l2, .ref l3, .ref l4])), (l1, cI G 12 (fun _ => 0)), (l2, cI G 12 (fun _ => 0)), (l3, cI G 12 (fun _ => 0)), (l4, cI G 12 (fun _ => 0))]) (is9 := [0, 1, 2, 3, 4]) (stk' := []) rfl (by decide) rfl ?_)
  refine kz_vret (pc := 32) fx rx dX1_clear_32 (by decide) (by decide) ?_
  exact ⟨rfl, rfl⟩
set_option maxRecDepth 100000 in
set_option maxHeartbeats 4000000 in
/-- passUp -/
theorem c_passUp (G : GX) (l : Launch) (hlt : l.stackTraces = false) (tl : Nat) (l1 : Nat) (l2 : Nat) (l3 : Nat) (l4 : Nat) (lev : Nat → Int) (gre : Nat → Int) (los : Nat → Int) (wgs : Nat → Int) (i : Nat) (p : Nat) (v : Int) (hi : i < 12) (hp : p < 12) (hv : 0 ≤ v ∧ v ≤ 9) (rlev : ∀ j, 0 ≤ lev j ∧ lev j ≤ 3) (rgre : ∀ j, 0 ≤ gre j ∧ gre j ≤ 3) : HC G l yX1_passUp wsX1_passUp 1 24 0 0 [.ref tl, .int (iI (((i : Nat) : Int))), .int (iI (((p : Nat) : Int))), .int (iI (v))] [(tl, .inr (3, [.ref l1, .ref l2, .ref l3, .ref l4])), (l1, cI G 12 lev), (l2, cI G 12 gre), (l3, cI G 12 los), (l4, cI G 12 wgs)] (rt none [(tl, .inr (3, [.ref l1, .ref l2, .ref l3, .ref l4])), (l1, cI G 12 lev), (l2, cI G 12 (zup gre p (max (gre p) (lev i)))), (l3, cI G 12 (zup los p (los p + lossZ (lev i) * v))), (l4, cI G 12 (zup wgs p (wgs p + v)))]) := by
  refine kz_start cX1_passUp 4 none [(0, .ref tl), (1, .int (iI (((i : Nat) : Int)))), (2, .int (iI (((p : Nat) : Int)))), (3, .int (iI (v)))] hlt (by decide) rfl (Nat.le_of_ble_eq_true rfl) rfl (fun X fx rx => ?_)
  refine kz_aload_n (pc := 0) fx 0 dX1_passUp_0 rfl ?_
  refine kz_get (pc := 1) (ci := 3) (C := RX1) (T := TX1) (N := 4) (ref := "Statusboard$Levels") (v := .ref l2) fx 0 1 rfl rfl (fun u h => List.mem_cons_of_mem _ (pu_X1 u h)) (by decide) (List.mem_cons_of_mem _ (pt_1 161 rfl rfl)) rfl rfl dX1_passUp_1 ?_
  refine kz_iload_n (pc := 4) fx 2 dX1_passUp_4 rfl ?_
  refine kz_aload_n (pc := 5) fx 0 dX1_passUp_5 rfl ?_
  refine kz_get (pc := 6) (ci := 3) (C := RX1) (T := TX1) (N := 4) (ref := "Statusboard$Levels") (v := .ref l2) fx 0 1 rfl rfl (fun u h => List.mem_cons_of_mem _ (pu_X1 u h)) (by decide) (List.mem_cons_of_mem _ (pt_1 161 rfl rfl)) rfl rfl dX1_passUp_6 ?_
  refine kz_iload_n (pc := 9) fx 2 dX1_passUp_9 rfl ?_
  refine kz_iald (pc := 10) (f := gre) fx 2 p rfl rfl (by omega) (by decide) dX1_passUp_10 ?_
  have r_1 := rgre p
  refine kz_aload_n (pc := 11) fx 0 dX1_passUp_11 rfl ?_
  refine kz_get (pc := 12) (ci := 3) (C := RX1) (T := TX1) (N := 4) (ref := "Statusboard$Levels") (v := .ref l1) fx 0 0 rfl rfl (fun u h => List.mem_cons_of_mem _ (pu_X1 u h)) (by decide) (List.mem_cons_of_mem _ (pt_1 159 rfl rfl)) rfl rfl dX1_passUp_12 ?_
  refine kz_iload_n (pc := 15) fx 1 dX1_passUp_15 rfl ?_
  refine kz_iald (pc := 16) (f := lev) fx 1 i rfl rfl (by omega) (by decide) dX1_passUp_16 ?_
  have r_2 := rlev i
  refine kz_mmax (pc := 17) fx (List.mem_cons_of_mem _ (pt_3 8 rfl rfl)) (List.mem_cons_of_mem _ (pt_3 9 rfl rfl)) (List.mem_cons_of_mem _ (pt_1 18 rfl rfl)) (List.mem_cons_of_mem _ (pt_3 10 rfl rfl)) (by decide) (Nat.le_of_ble_eq_true rfl) (by omega) (by omega) ⟨by omega, by omega⟩ ⟨by omega, by omega⟩ dX1_passUp_17 ?_
  refine kz_iast (pc := 20) (f := gre) (w' := [(tl, .inr (3, [.ref l1, .ref l2, .ref l3, .ref l4])), (l1, cI G 12 lev), (l2, cI G 12 (zup gre p (max (gre p) (lev i)))), (l3, cI G 12 los), (l4, cI G 12 wgs)]) fx 2 p rfl rfl (by omega) (by decide) dX1_passUp_20 rfl ?_
  refine kz_aload_n (pc := 21) fx 0 dX1_passUp_21 rfl ?_
  refine kz_get (pc := 22) (ci := 3) (C := RX1) (T := TX1) (N := 4) (ref := "Statusboard$Levels") (v := .ref l3) fx 0 2 rfl rfl (fun u h => List.mem_cons_of_mem _ (pu_X1 u h)) (by decide) (List.mem_cons_of_mem _ (pt_1 162 rfl rfl)) rfl rfl dX1_passUp_22 ?_
  refine kz_iload_n (pc := 25) fx 2 dX1_passUp_25 rfl ?_
  refine kz_dup2 (pc := 26) fx dX1_passUp_26 rfl rfl ?_
  refine kz_iald (pc := 27) (f := los) fx 3 p rfl rfl (by omega) (by decide) dX1_passUp_27 ?_
  refine kz_aload_n (pc := 28) fx 0 dX1_passUp_28 rfl ?_
  refine kz_get (pc := 29) (ci := 3) (C := RX1) (T := TX1) (N := 4) (ref := "Statusboard$Levels") (v := .ref l1) fx 0 0 rfl rfl (fun u h => List.mem_cons_of_mem _ (pu_X1 u h)) (by decide) (List.mem_cons_of_mem _ (pt_1 159 rfl rfl)) rfl rfl dX1_passUp_29 ?_
  refine kz_iload_n (pc := 32) fx 1 dX1_passUp_32 rfl ?_
  refine kz_iald (pc := 33) (f := lev) fx 1 i rfl rfl (by omega) (by decide) dX1_passUp_33 ?_
  have r_3 := rlev i
  refine kz_callN (pc := 34) (As := [.int (iI (lev i))]) (st := [.int (iI (los p)), .int (iI (((p : Nat) : Int))), .ref l3]) (wc := []) fx (c_lossOf G l hlt (lev i) (by first | assumption | omega)) rt_ne (gu_N (pt_3 25 rfl rfl)) rfl (by decide +kernel) (List.mem_cons_of_mem _ (pt_1 1 rfl rfl)) (List.mem_cons_of_mem _ (pt_3 24 rfl rfl)) ⟨by decide, by decide, rfl⟩ (by decide) [] (by decide) rfl rfl (Nat.le_of_ble_eq_true rfl) dX1_passUp_34 (by decide) (by decide) (kc_rt (r := some (.int (iI (lossZ (lev i))))) (w1 := []) (w' := [(tl, .inr (3, [.ref l1, .ref l2, .ref l3, .ref l4])), (l1, cI G 12 lev), (l2, cI G 12 (zup gre p (max (gre p) (lev i)))), (l3, cI G 12 los), (l4, cI G 12 wgs)]) (is9 := [0, 1, 2, 3, 4]) (stk' := [.int (iI (lossZ (lev i))), .int (iI (los p)), .int (iI (((p : Nat) : Int))), .ref l3]) rfl (by decide) rfl ?_)
  refine kz_iload_n (pc := 37) fx 3 dX1_passUp_37 rfl ?_
  refine kz_imul (pc := 38) fx dX1_passUp_38 ?_
  refine kz_iadd (pc := 39) fx dX1_passUp_39 ?_
  refine kz_iast (pc := 40) (f := los) (w' := [(tl, .inr (3, [.ref l1, .ref l2, .ref l3, .ref l4])), (l1, cI G 12 lev), (l2, cI G 12 (zup gre p (max (gre p) (lev i)))), (l3, cI G 12 (zup los p ((los p) + ((lossZ (lev i)) * v)))), (l4, cI G 12 wgs)]) fx 3 p rfl rfl (by omega) (by decide) dX1_passUp_40 rfl ?_
  refine kz_aload_n (pc := 41) fx 0 dX1_passUp_41 rfl ?_
  refine kz_get (pc := 42) (ci := 3) (C := RX1) (T := TX1) (N := 4) (ref := "Statusboard$Levels") (v := .ref l4) fx 0 3 rfl rfl (fun u h => List.mem_cons_of_mem _ (pu_X1 u h)) (by decide) (List.mem_cons_of_mem _ (pt_1 163 rfl rfl)) rfl rfl dX1_passUp_42 ?_
  refine kz_iload_n (pc := 45) fx 2 dX1_passUp_45 rfl ?_
  refine kz_dup2 (pc := 46) fx dX1_passUp_46 rfl rfl ?_
  refine kz_iald (pc := 47) (f := wgs) fx 4 p rfl rfl (by omega) (by decide) dX1_passUp_47 ?_
  refine kz_iload_n (pc := 48) fx 3 dX1_passUp_48 rfl ?_
  refine kz_iadd (pc := 49) fx dX1_passUp_49 ?_
  refine kz_iast (pc := 50) (f := wgs) (w' := [(tl, .inr (3, [.ref l1, .ref l2, .ref l3, .ref l4])), (l1, cI G 12 lev), (l2, cI G 12 (zup gre p (max (gre p) (lev i)))), (l3, cI G 12 (zup los p ((los p) + ((lossZ (lev i)) * v)))), (l4, cI G 12 (zup wgs p ((wgs p) + v)))]) fx 4 p rfl rfl (by omega) (by decide) dX1_passUp_50 rfl ?_
  refine kz_vret (pc := 51) fx rx dX1_passUp_51 (by decide) (by decide) ?_
  exact ⟨rfl, rfl⟩
set_option maxRecDepth 100000 in
set_option maxHeartbeats 4000000 in
/-- meanLoss -/
theorem c_meanLoss (G : GX) (l : Launch) (hlt : l.stackTraces = false) (tl : Nat) (l1 : Nat) (l2 : Nat) (l3 : Nat) (l4 : Nat) (lev : Nat → Int) (gre : Nat → Int) (los : Nat → Int) (wgs : Nat → Int) (i : Nat) (hi : i < 12) (rlos : ∀ j, 0 ≤ los j ∧ los j ≤ 10800) (rwgs : ∀ j, 0 ≤ wgs j ∧ wgs j ≤ 108) : HC G l yX1_meanLoss wsX1_meanLoss 0 0 0 0 [.ref tl, .int (iI (((i : Nat) : Int)))] [(tl, .inr (3, [.ref l1, .ref l2, .ref l3, .ref l4])), (l1, cI G 12 lev), (l2, cI G 12 gre), (l3, cI G 12 los), (l4, cI G 12 wgs)] (rt (some (.int (iI (los i / wgs i)))) [(tl, .inr (3, [.ref l1, .ref l2, .ref l3, .ref l4])), (l1, cI G 12 lev), (l2, cI G 12 gre), (l3, cI G 12 los), (l4, cI G 12 wgs)]) := by
  refine kz_start cX1_meanLoss 2 (some .int) [(0, .ref tl), (1, .int (iI (((i : Nat) : Int))))] hlt (by decide) rfl (Nat.le_of_ble_eq_true rfl) rfl (fun X fx rx => ?_)
  refine kz_aload_n (pc := 0) fx 0 dX1_meanLoss_0 rfl ?_
  refine kz_get (pc := 1) (ci := 3) (C := RX1) (T := TX1) (N := 4) (ref := "Statusboard$Levels") (v := .ref l4) fx 0 3 rfl rfl (fun u h => List.mem_cons_of_mem _ (pu_X1 u h)) (by decide) (List.mem_cons_of_mem _ (pt_1 163 rfl rfl)) rfl rfl dX1_meanLoss_1 ?_
  refine kz_iload_n (pc := 4) fx 1 dX1_meanLoss_4 rfl ?_
  refine kz_iald (pc := 5) (f := wgs) fx 4 i rfl rfl (by omega) (by decide) dX1_meanLoss_5 ?_
  have r_1 := rwgs i
  refine kz_if_ne (pc := 6) fx 13 dX1_meanLoss_6 (by decide) ⟨by omega, by omega⟩ (fun h_6 => ?_) (fun h_6 => ?_)
  · refine kz_aload_n (pc := 13) fx 0 dX1_meanLoss_13 rfl ?_
    refine kz_get (pc := 14) (ci := 3) (C := RX1) (T := TX1) (N := 4) (ref := "Statusboard$Levels") (v := .ref l3) fx 0 2 rfl rfl (fun u h => List.mem_cons_of_mem _ (pu_X1 u h)) (by decide) (List.mem_cons_of_mem _ (pt_1 162 rfl rfl)) rfl rfl dX1_meanLoss_14 ?_
    refine kz_iload_n (pc := 17) fx 1 dX1_meanLoss_17 rfl ?_
    refine kz_iald (pc := 18) (f := los) fx 3 i rfl rfl (by omega) (by decide) dX1_meanLoss_18 ?_
    have r_2 := rlos i
    refine kz_aload_n (pc := 19) fx 0 dX1_meanLoss_19 rfl ?_
    refine kz_get (pc := 20) (ci := 3) (C := RX1) (T := TX1) (N := 4) (ref := "Statusboard$Levels") (v := .ref l4) fx 0 3 rfl rfl (fun u h => List.mem_cons_of_mem _ (pu_X1 u h)) (by decide) (List.mem_cons_of_mem _ (pt_1 163 rfl rfl)) rfl rfl dX1_meanLoss_20 ?_
    refine kz_iload_n (pc := 23) fx 1 dX1_meanLoss_23 rfl ?_
    refine kz_iald (pc := 24) (f := wgs) fx 4 i rfl rfl (by omega) (by decide) dX1_meanLoss_24 ?_
    have r_3 := rwgs i
    refine kz_idiv (pc := 25) fx dX1_meanLoss_25 (by omega) ⟨by omega, by omega⟩ (by omega) ⟨by omega, by omega⟩ ?_
    refine kz_iret (pc := 26) fx rx dX1_meanLoss_26 (by decide) (by decide) ?_
    exact rt_i (by first | rfl | (rw [show wgs i = 0 by omega]; simp)) (rfl)
  · refine kz_iconst (pc := 9) fx dX1_meanLoss_9 ?_
    refine kz_goto (pc := 10) (tgt := 26) fx dX1_meanLoss_10 (by decide) ?_
    refine kz_iret (pc := 26) fx rx dX1_meanLoss_26 (by decide) (by decide) ?_
    exact rt_i (by first | rfl | (rw [show wgs i = 0 by omega]; simp)) (rfl)
