/-! DATA: the contracts of methods that change their own arrays, and of walks over spans. -/
set_option maxRecDepth 100000 in
set_option maxHeartbeats 4000000 in
/-- Persons.add -/
theorem c_P_add (G : GX) (l : Launch) (hlt : l.stackTraces = false) (tp : Nat) (p1 : Nat) (p2 : Nat) (np : Nat) (ple : Nat → Int) (pfo : Nat → Nat) (v : Int) (hnp : np < 6) (hv : 0 ≤ v ∧ v ≤ 3) : HC G l yX4_add wsX4_add 0 0 0 0 [.ref tp, .int (iI (v))] [(tp, .inr (6, [.int (iI (((np : Nat) : Int))), .ref p1, .ref p2])), (p1, cI G 6 ple), (p2, cI G 6 (nz pfo))] (rt (some (.int (iI (((np : Nat) : Int))))) [(tp, .inr (6, [.int (iI (((np + 1 : Nat) : Int))), .ref p1, .ref p2])), (p1, cI G 6 (zup ple np v)), (p2, cI G 6 (nz (zuN pfo np 0)))]) := by
  refine kz_start cX4_add 3 (some .int) [(0, .ref tp), (1, .int (iI (v)))] hlt (by decide) rfl (Nat.le_of_ble_eq_true rfl) rfl (fun X fx rx => ?_)
  refine kz_aload_n (pc := 0) fx 0 dX4_add_0 rfl ?_
  refine kz_get (pc := 1) (ci := 6) (C := RX4) (T := TX4) (N := 3) (ref := "Statusboard$Persons") (v := .int (iI (((np : Nat) : Int)))) fx 0 0 rfl rfl (fun u h => List.mem_cons_of_mem _ (pu_X4 u h)) (by decide) (List.mem_cons_of_mem _ (pt_1 72 rfl rfl)) rfl rfl dX4_add_1 ?_
  refine kz_istore_n (pc := 4) (lv' := [(2, .int (iI (((np : Nat) : Int)))), (0, .ref tp), (1, .int (iI (v)))]) fx dX4_add_4 rfl (by decide) rfl ?_
  refine kz_aload_n (pc := 5) fx 1 dX4_add_5 rfl ?_
  refine kz_get (pc := 6) (ci := 6) (C := RX4) (T := TX4) (N := 3) (ref := "Statusboard$Persons") (v := .ref p1) fx 0 1 rfl rfl (fun u h => List.mem_cons_of_mem _ (pu_X4 u h)) (by decide) (List.mem_cons_of_mem _ (pt_1 74 rfl rfl)) rfl rfl dX4_add_6 ?_
  refine kz_iload_n (pc := 9) fx 0 dX4_add_9 rfl ?_
  refine kz_iload_n (pc := 10) fx 2 dX4_add_10 rfl ?_
  refine kz_iast (pc := 11) (f := ple) (w' := [(tp, .inr (6, [.int (iI (((np : Nat) : Int))), .ref p1, .ref p2])), (p1, cI G 6 (zup ple np v)), (p2, cI G 6 (nz pfo))]) fx 1 np rfl rfl (by omega) (by decide) dX4_add_11 rfl ?_
  refine kz_aload_n (pc := 12) fx 1 dX4_add_12 rfl ?_
  refine kz_get (pc := 13) (ci := 6) (C := RX4) (T := TX4) (N := 3) (ref := "Statusboard$Persons") (v := .ref p2) fx 0 2 rfl rfl (fun u h => List.mem_cons_of_mem _ (pu_X4 u h)) (by decide) (List.mem_cons_of_mem _ (pt_1 76 rfl rfl)) rfl rfl dX4_add_13 ?_
  refine kz_iload_n (pc := 16) fx 0 dX4_add_16 rfl ?_
  refine kz_iconst (pc := 17) fx dX4_add_17 ?_
  refine kz_iast (pc := 18) (f := nz pfo) (w' := [(tp, .inr (6, [.int (iI (((np : Nat) : Int))), .ref p1, .ref p2])), (p1, cI G 6 (zup ple np v)), (p2, cI G 6 (nz (zuN pfo np 0)))]) fx 2 np rfl rfl (by omega) (by decide) dX4_add_18 (by rw [← zu_nz pfo np 0]; rfl) ?_
  refine kz_aload_n (pc := 19) fx 1 dX4_add_19 rfl ?_
  refine kz_dup (pc := 20) fx dX4_add_20 rfl ?_
  refine kz_get (pc := 21) (ci := 6) (C := RX4) (T := TX4) (N := 3) (ref := "Statusboard$Persons") (v := .int (iI (((np : Nat) : Int)))) fx 0 0 rfl rfl (fun u h => List.mem_cons_of_mem _ (pu_X4 u h)) (by decide) (List.mem_cons_of_mem _ (pt_1 72 rfl rfl)) rfl rfl dX4_add_21 ?_
  refine kz_iconst (pc := 24) fx dX4_add_24 ?_
  refine kz_iadd (pc := 25) fx dX4_add_25 ?_
  refine kz_put (pc := 26) (ci := 6) (C := RX4) (T := TX4) (N := 3) (ref := "Statusboard$Persons") (v := .int (iI (((np : Nat) : Int) + 1))) (w' := [(tp, .inr (6, [.int (iI (((np : Nat) : Int) + 1)), .ref p1, .ref p2])), (p1, cI G 6 (zup ple np v)), (p2, cI G 6 (nz (zuN pfo np 0)))]) fx tyX4 0 0 rfl rfl (fun u h => List.mem_cons_of_mem _ (pu_X4 u h)) tyX4_ok nmX4 (by decide) (List.mem_cons_of_mem _ (pt_1 72 rfl rfl)) rfl rfl rfl rfl (Nat.le_of_ble_eq_true rfl) dX4_add_26 rfl ?_
  refine kz_iload_n (pc := 29) fx 0 dX4_add_29 rfl ?_
  refine kz_iret (pc := 30) fx rx dX4_add_30 (by decide) (by decide) ?_
  exact rt_i (by first | rfl | omega | (simp [*]; done)) (rfl)
set_option maxRecDepth 100000 in
set_option maxHeartbeats 4000000 in
/-- Persons.toggle -/
theorem c_P_toggle (G : GX) (l : Launch) (hlt : l.stackTraces = false) (tp : Nat) (p1 : Nat) (p2 : Nat) (np : Nat) (ple : Nat → Int) (pfo : Nat → Nat) (i : Nat) (c : Nat) (hi : i < 6) (hc : c < 12) : HC G l yX4_toggle wsX4_toggle 0 0 0 0 [.ref tp, .int (iI (((i : Nat) : Int))), .int (iI (((c : Nat) : Int)))] [(tp, .inr (6, [.int (iI (((np : Nat) : Int))), .ref p1, .ref p2])), (p1, cI G 6 ple), (p2, cI G 6 (nz pfo))] (rt none [(tp, .inr (6, [.int (iI (((np : Nat) : Int))), .ref p1, .ref p2])), (p1, cI G 6 ple), (p2, cI G 6 (nz (zuN pfo i (pfo i ^^^ 2 ^ c))))]) := by
  refine kz_start cX4_toggle 3 none [(0, .ref tp), (1, .int (iI (((i : Nat) : Int)))), (2, .int (iI (((c : Nat) : Int))))] hlt (by decide) rfl (Nat.le_of_ble_eq_true rfl) rfl (fun X fx rx => ?_)
  refine kz_aload_n (pc := 0) fx 0 dX4_toggle_0 rfl ?_
  refine kz_get (pc := 1) (ci := 6) (C := RX4) (T := TX4) (N := 3) (ref := "Statusboard$Persons") (v := .ref p2) fx 0 2 rfl rfl (fun u h => List.mem_cons_of_mem _ (pu_X4 u h)) (by decide) (List.mem_cons_of_mem _ (pt_1 76 rfl rfl)) rfl rfl dX4_toggle_1 ?_
  refine kz_iload_n (pc := 4) fx 1 dX4_toggle_4 rfl ?_
  refine kz_dup2 (pc := 5) fx dX4_toggle_5 rfl rfl ?_
  refine kz_iald (pc := 6) (f := nz pfo) fx 2 i rfl rfl (by omega) (by decide) dX4_toggle_6 ?_
  refine kz_iconst (pc := 7) fx dX4_toggle_7 ?_
  refine kz_iload_n (pc := 8) fx 2 dX4_toggle_8 rfl ?_
  refine kz_ishl (pc := 9) (v := (iI (((2 ^ c : Nat) : Int)))) fx dX4_toggle_9 (zb_shl (by omega)) ?_
  refine kz_ixor (pc := 10) (v := (iI ((((pfo i) ^^^ (2 ^ c) : Nat) : Int)))) fx dX4_toggle_10 (zb_xor _ _) ?_
  refine kz_iast (pc := 11) (f := nz pfo) (w' := [(tp, .inr (6, [.int (iI (((np : Nat) : Int))), .ref p1, .ref p2])), (p1, cI G 6 ple), (p2, cI G 6 (nz (zuN pfo i ((pfo i) ^^^ (2 ^ c)))))]) fx 2 i rfl rfl (by omega) (by decide) dX4_toggle_11 (by rw [← zu_nz pfo i ((pfo i) ^^^ (2 ^ c))]; rfl) ?_
  refine kz_vret (pc := 12) fx rx dX4_toggle_12 (by decide) (by decide) ?_
  exact ⟨rfl, rfl⟩
set_option maxRecDepth 100000 in
set_option maxHeartbeats 4000000 in
/-- Incidents.add -/
theorem c_I_add (G : GX) (l : Launch) (hlt : l.stackTraces = false) (ti : Nat) (o1 : Nat) (o2 : Nat) (o3 : Nat) (o4 : Nat) (o5 : Nat) (ni : Nat) (iow : Nat → Int) (ilv : Nat → Int) (ist : Nat → Int) (ien : Nat → Int) (ics : Nat → Int) (c : Nat) (v : Int) (u : Int) (hni : ni < 20) (hc : c < 12) : HC G l yX0_add wsX0_add 0 0 0 0 [.ref ti, .int (iI (((c : Nat) : Int))), .int (iI (v)), .int (iI (u))] [(ti, .inr (2, [.int (iI (((ni : Nat) : Int))), .ref o1, .ref o2, .ref o3, .ref o4, .ref o5])), (o1, cI G 20 iow), (o2, cI G 20 ilv), (o3, cI G 20 ist), (o4, cI G 20 ien), (o5, cI G 20 ics)] (rt (some (.int (iI (((ni : Nat) : Int))))) [(ti, .inr (2, [.int (iI (((ni + 1 : Nat) : Int))), .ref o1, .ref o2, .ref o3, .ref o4, .ref o5])), (o1, cI G 20 (zup iow ni ((c : Nat) : Int))), (o2, cI G 20 (zup ilv ni v)), (o3, cI G 20 (zup ist ni u)), (o4, cI G 20 (zup ien ni (-1))), (o5, cI G 20 (zup ics ni ((ni : Nat) : Int)))]) := by
  refine kz_start cX0_add 5 (some .int) [(0, .ref ti), (1, .int (iI (((c : Nat) : Int)))), (2, .int (iI (v))), (3, .int (iI (u)))] hlt (by decide) rfl (Nat.le_of_ble_eq_true rfl) rfl (fun X fx rx => ?_)
  refine kz_aload_n (pc := 0) fx 0 dX0_add_0 rfl ?_
  refine kz_get (pc := 1) (ci := 2) (C := RX0) (T := TX0) (N := 6) (ref := "Statusboard$Incidents") (v := .int (iI (((ni : Nat) : Int)))) fx 0 0 rfl rfl (fun u h => List.mem_cons_of_mem _ (pu_X0 u h)) (by decide) (List.mem_cons_of_mem _ (pt_1 90 rfl rfl)) rfl rfl dX0_add_1 ?_
  refine kz_istore (pc := 4) (lv' := [(4, .int (iI (((ni : Nat) : Int)))), (0, .ref ti), (1, .int (iI (((c : Nat) : Int)))), (2, .int (iI (v))), (3, .int (iI (u)))]) fx dX0_add_4 (by decide) rfl ?_
  refine kz_aload_n (pc := 6) fx 1 dX0_add_6 rfl ?_
  refine kz_get (pc := 7) (ci := 2) (C := RX0) (T := TX0) (N := 6) (ref := "Statusboard$Incidents") (v := .ref o1) fx 0 1 rfl rfl (fun u h => List.mem_cons_of_mem _ (pu_X0 u h)) (by decide) (List.mem_cons_of_mem _ (pt_1 93 rfl rfl)) rfl rfl dX0_add_7 ?_
  refine kz_iload (pc := 10) fx 0 dX0_add_10 rfl ?_
  refine kz_iload_n (pc := 12) fx 2 dX0_add_12 rfl ?_
  refine kz_iast (pc := 13) (f := iow) (w' := [(ti, .inr (2, [.int (iI (((ni : Nat) : Int))), .ref o1, .ref o2, .ref o3, .ref o4, .ref o5])), (o1, cI G 20 (zup iow ni ((c : Nat) : Int))), (o2, cI G 20 ilv), (o3, cI G 20 ist), (o4, cI G 20 ien), (o5, cI G 20 ics)]) fx 1 ni rfl rfl (by omega) (by decide) dX0_add_13 rfl ?_
  refine kz_aload_n (pc := 14) fx 1 dX0_add_14 rfl ?_
  refine kz_get (pc := 15) (ci := 2) (C := RX0) (T := TX0) (N := 6) (ref := "Statusboard$Incidents") (v := .ref o2) fx 0 2 rfl rfl (fun u h => List.mem_cons_of_mem _ (pu_X0 u h)) (by decide) (List.mem_cons_of_mem _ (pt_1 95 rfl rfl)) rfl rfl dX0_add_15 ?_
  refine kz_iload (pc := 18) fx 0 dX0_add_18 rfl ?_
  refine kz_iload_n (pc := 20) fx 3 dX0_add_20 rfl ?_
  refine kz_iast (pc := 21) (f := ilv) (w' := [(ti, .inr (2, [.int (iI (((ni : Nat) : Int))), .ref o1, .ref o2, .ref o3, .ref o4, .ref o5])), (o1, cI G 20 (zup iow ni ((c : Nat) : Int))), (o2, cI G 20 (zup ilv ni v)), (o3, cI G 20 ist), (o4, cI G 20 ien), (o5, cI G 20 ics)]) fx 2 ni rfl rfl (by omega) (by decide) dX0_add_21 rfl ?_
  refine kz_aload_n (pc := 22) fx 1 dX0_add_22 rfl ?_
  refine kz_get (pc := 23) (ci := 2) (C := RX0) (T := TX0) (N := 6) (ref := "Statusboard$Incidents") (v := .ref o3) fx 0 3 rfl rfl (fun u h => List.mem_cons_of_mem _ (pu_X0 u h)) (by decide) (List.mem_cons_of_mem _ (pt_1 98 rfl rfl)) rfl rfl dX0_add_23 ?_
  refine kz_iload (pc := 26) fx 0 dX0_add_26 rfl ?_
  refine kz_iload_n (pc := 28) fx 4 dX0_add_28 rfl ?_
  refine kz_iast (pc := 29) (f := ist) (w' := [(ti, .inr (2, [.int (iI (((ni : Nat) : Int))), .ref o1, .ref o2, .ref o3, .ref o4, .ref o5])), (o1, cI G 20 (zup iow ni ((c : Nat) : Int))), (o2, cI G 20 (zup ilv ni v)), (o3, cI G 20 (zup ist ni u)), (o4, cI G 20 ien), (o5, cI G 20 ics)]) fx 3 ni rfl rfl (by omega) (by decide) dX0_add_29 rfl ?_
  refine kz_aload_n (pc := 30) fx 1 dX0_add_30 rfl ?_
  refine kz_get (pc := 31) (ci := 2) (C := RX0) (T := TX0) (N := 6) (ref := "Statusboard$Incidents") (v := .ref o4) fx 0 4 rfl rfl (fun u h => List.mem_cons_of_mem _ (pu_X0 u h)) (by decide) (List.mem_cons_of_mem _ (pt_1 100 rfl rfl)) rfl rfl dX0_add_31 ?_
  refine kz_iload (pc := 34) fx 0 dX0_add_34 rfl ?_
  refine kz_iconst (pc := 36) fx dX0_add_36 ?_
  refine kz_iast (pc := 37) (f := ien) (w' := [(ti, .inr (2, [.int (iI (((ni : Nat) : Int))), .ref o1, .ref o2, .ref o3, .ref o4, .ref o5])), (o1, cI G 20 (zup iow ni ((c : Nat) : Int))), (o2, cI G 20 (zup ilv ni v)), (o3, cI G 20 (zup ist ni u)), (o4, cI G 20 (zup ien ni (-1))), (o5, cI G 20 ics)]) fx 4 ni rfl rfl (by omega) (by decide) dX0_add_37 rfl ?_
  refine kz_aload_n (pc := 38) fx 1 dX0_add_38 rfl ?_
  refine kz_get (pc := 39) (ci := 2) (C := RX0) (T := TX0) (N := 6) (ref := "Statusboard$Incidents") (v := .ref o5) fx 0 5 rfl rfl (fun u h => List.mem_cons_of_mem _ (pu_X0 u h)) (by decide) (List.mem_cons_of_mem _ (pt_1 102 rfl rfl)) rfl rfl dX0_add_39 ?_
  refine kz_iload (pc := 42) fx 0 dX0_add_42 rfl ?_
  refine kz_iload (pc := 44) fx 0 dX0_add_44 rfl ?_
  refine kz_iast (pc := 46) (f := ics) (w' := [(ti, .inr (2, [.int (iI (((ni : Nat) : Int))), .ref o1, .ref o2, .ref o3, .ref o4, .ref o5])), (o1, cI G 20 (zup iow ni ((c : Nat) : Int))), (o2, cI G 20 (zup ilv ni v)), (o3, cI G 20 (zup ist ni u)), (o4, cI G 20 (zup ien ni (-1))), (o5, cI G 20 (zup ics ni ((ni : Nat) : Int)))]) fx 5 ni rfl rfl (by omega) (by decide) dX0_add_46 rfl ?_
  refine kz_aload_n (pc := 47) fx 1 dX0_add_47 rfl ?_
  refine kz_dup (pc := 48) fx dX0_add_48 rfl ?_
  refine kz_get (pc := 49) (ci := 2) (C := RX0) (T := TX0) (N := 6) (ref := "Statusboard$Incidents") (v := .int (iI (((ni : Nat) : Int)))) fx 0 0 rfl rfl (fun u h => List.mem_cons_of_mem _ (pu_X0 u h)) (by decide) (List.mem_cons_of_mem _ (pt_1 90 rfl rfl)) rfl rfl dX0_add_49 ?_
  refine kz_iconst (pc := 52) fx dX0_add_52 ?_
  refine kz_iadd (pc := 53) fx dX0_add_53 ?_
  refine kz_put (pc := 54) (ci := 2) (C := RX0) (T := TX0) (N := 6) (ref := "Statusboard$Incidents") (v := .int (iI (((ni : Nat) : Int) + 1))) (w' := [(ti, .inr (2, [.int (iI (((ni : Nat) : Int) + 1)), .ref o1, .ref o2, .ref o3, .ref o4, .ref o5])), (o1, cI G 20 (zup iow ni ((c : Nat) : Int))), (o2, cI G 20 (zup ilv ni v)), (o3, cI G 20 (zup ist ni u)), (o4, cI G 20 (zup ien ni (-1))), (o5, cI G 20 (zup ics ni ((ni : Nat) : Int)))]) fx tyX0 0 0 rfl rfl (fun u h => List.mem_cons_of_mem _ (pu_X0 u h)) tyX0_ok nmX0 (by decide) (List.mem_cons_of_mem _ (pt_1 90 rfl rfl)) rfl rfl rfl rfl (Nat.le_of_ble_eq_true rfl) dX0_add_54 rfl ?_
  refine kz_iload (pc := 57) fx 0 dX0_add_57 rfl ?_
  refine kz_iret (pc := 59) fx rx dX0_add_59 (by decide) (by decide) ?_
  exact rt_i (by first | rfl | omega | (simp [*]; done)) (rfl)
set_option maxRecDepth 100000 in
set_option maxHeartbeats 4000000 in
/-- merge -/
theorem c_merge (G : GX) (l : Launch) (hlt : l.stackTraces = false) (ti : Nat) (o1 : Nat) (o2 : Nat) (o3 : Nat) (o4 : Nat) (o5 : Nat) (ni : Nat) (iow : Nat → Int) (ilv : Nat → Int) (ist : Nat → Int) (ien : Nat → Int) (ics : Nat → Int) (a : Int) (b : Int) (hni : ni ≤ 20) (rics : ∀ j, 0 ≤ ics j ∧ ics j < 20) (ha : -2147483648 ≤ a ∧ a < 2147483648) (hb : -2147483648 ≤ b ∧ b < 2147483648) (rmg : ∀ k j, -2147483648 ≤ mgF ics a b k j ∧ mgF ics a b k j < 2147483648) : HC G l yX0_merge wsX0_merge 0 0 0 0 [.ref ti, .int (iI (a)), .int (iI (b))] [(ti, .inr (2, [.int (iI (((ni : Nat) : Int))), .ref o1, .ref o2, .ref o3, .ref o4, .ref o5])), (o1, cI G 20 iow), (o2, cI G 20 ilv), (o3, cI G 20 ist), (o4, cI G 20 ien), (o5, cI G 20 ics)] (rt (some (.int (iI (((cN (fun k => decide (mgF ics a b (k + 1) k = a)) ni : Nat) : Int))))) [(ti, .inr (2, [.int (iI (((ni : Nat) : Int))), .ref o1, .ref o2, .ref o3, .ref o4, .ref o5])), (o1, cI G 20 iow), (o2, cI G 20 ilv), (o3, cI G 20 ist), (o4, cI G 20 ien), (o5, cI G 20 (mgF ics a b ni))]) := by
  refine kz_start cX0_merge 5 (some .int) [(0, .ref ti), (1, .int (iI (a))), (2, .int (iI (b)))] hlt (by decide) rfl (Nat.le_of_ble_eq_true rfl) rfl (fun X fx rx => ?_)
  refine kz_iconst (pc := 0) fx dX0_merge_0 ?_
  refine kz_istore_n (pc := 1) (lv' := [(3, .int (iI (0))), (0, .ref ti), (1, .int (iI (a))), (2, .int (iI (b)))]) fx dX0_merge_1 rfl (by decide) rfl ?_
  refine kz_iconst (pc := 2) fx dX0_merge_2 ?_
  refine kz_istore (pc := 3) (lv' := [(4, .int (iI (0))), (3, .int (iI (0))), (0, .ref ti), (1, .int (iI (a))), (2, .int (iI (b)))]) fx dX0_merge_3 (by decide) rfl ?_
  refine KK.sub (ks := [2, 3, 4, 1, 0]) (lv' := [(0, .ref ti), (1, .int (iI (a))), (2, .int (iI (b))), (3, .int (iI (0))), (4, .int (iI (0)))]) rfl ?_
  have e_1 : mgF ics a b 0 = ics := by first | rfl | exact (mgF_0 ics a b)
  refine KK.we (w' := [(ti, .inr (2, [.int (iI (((ni : Nat) : Int))), .ref o1, .ref o2, .ref o3, .ref o4, .ref o5])), (o1, cI G 20 iow), (o2, cI G 20 ilv), (o3, cI G 20 ist), (o4, cI G 20 ien), (o5, cI G 20 (mgF ics a b 0))]) (by rw [e_1]) ?_
  have e_2 : (0 : Int) = ((cN (fun k => decide (mgF ics a b (k + 1) k = a)) 0 : Nat) : Int) := by first | rfl | omega
  have e_3 : (0 : Int) = ((0 : Nat) : Int) := by first | rfl | omega
  refine KK.lve (lv' := [(0, .ref ti), (1, .int (iI (a))), (2, .int (iI (b))), (3, .int (iI (((cN (fun k => decide (mgF ics a b (k + 1) k = a)) 0 : Nat) : Int)))), (4, .int (iI (((0 : Nat) : Int))))]) (lv_k (lv_k (lv_k (lv_c e_2 (lv_c e_3 rfl))))) ?_
  have i_4 : 0 ≤ ni := Nat.zero_le ni
  refine kz_loop (σ := Nat) (fun z => ni - z) (fun z => (z ≤ ni)) (fun z => KK X G [(0, .ref ti), (1, .int (iI (a))), (2, .int (iI (b))), (3, .int (iI (((cN (fun k => decide (mgF ics a b (k + 1) k = a)) z : Nat) : Int)))), (4, .int (iI (((z : Nat) : Int))))] [(ti, .inr (2, [.int (iI (((ni : Nat) : Int))), .ref o1, .ref o2, .ref o3, .ref o4, .ref o5])), (o1, cI G 20 iow), (o2, cI G 20 ilv), (o3, cI G 20 ist), (o4, cI G 20 ien), (o5, cI G 20 (mgF ics a b z))] 0 0 5 []) ?_ 0 i_4
  rintro i hi ih_5
  have hi : i ≤ ni := hi
  show KK X G [(0, .ref ti), (1, .int (iI (a))), (2, .int (iI (b))), (3, .int (iI (((cN (fun k => decide (mgF ics a b (k + 1) k = a)) i : Nat) : Int)))), (4, .int (iI (((i : Nat) : Int))))] [(ti, .inr (2, [.int (iI (((ni : Nat) : Int))), .ref o1, .ref o2, .ref o3, .ref o4, .ref o5])), (o1, cI G 20 iow), (o2, cI G 20 ilv), (o3, cI G 20 ist), (o4, cI G 20 ien), (o5, cI G 20 (mgF ics a b i))] 0 0 5 []
  have hcn := cN_le (fun k => decide (mgF ics a b (k + 1) k = a)) i
  refine kz_iload (pc := 5) fx 4 dX0_merge_5 rfl ?_
  refine kz_aload_n (pc := 7) fx 0 dX0_merge_7 rfl ?_
  refine kz_get (pc := 8) (ci := 2) (C := RX0) (T := TX0) (N := 6) (ref := "Statusboard$Incidents") (v := .int (iI (((ni : Nat) : Int)))) fx 0 0 rfl rfl (fun u h => List.mem_cons_of_mem _ (pu_X0 u h)) (by decide) (List.mem_cons_of_mem _ (pt_1 90 rfl rfl)) rfl rfl dX0_merge_8 ?_
  refine kz_icmp_ge (pc := 11) fx 53 dX0_merge_11 (by decide) ⟨by omega, by omega⟩ ⟨by omega, by omega⟩ (fun h_11 => ?_) (fun h_11 => ?_)
  · refine kz_iload_n (pc := 53) fx 3 dX0_merge_53 rfl ?_
    refine kz_iret (pc := 54) fx rx dX0_merge_54 (by decide) (by decide) ?_
    exact rt_i (by rw [show i = ni by omega]) (by rw [show i = ni by omega])
  · refine kz_aload_n (pc := 14) fx 0 dX0_merge_14 rfl ?_
    refine kz_get (pc := 15) (ci := 2) (C := RX0) (T := TX0) (N := 6) (ref := "Statusboard$Incidents") (v := .ref o5) fx 0 5 rfl rfl (fun u h => List.mem_cons_of_mem _ (pu_X0 u h)) (by decide) (List.mem_cons_of_mem _ (pt_1 102 rfl rfl)) rfl rfl dX0_merge_15 ?_
    refine kz_iload (pc := 18) fx 4 dX0_merge_18 rfl ?_
    have r9 := rmg i i
    have r8 := rmg (i + 1) i
    refine kz_iald (pc := 20) (f := mgF ics a b i) fx 5 i rfl rfl (by omega) (by decide) dX0_merge_20 ?_
    refine kz_iload_n (pc := 21) fx 2 dX0_merge_21 rfl ?_
    refine kz_icmp_ne (pc := 22) fx 33 dX0_merge_22 (by decide) ⟨by omega, by omega⟩ ⟨by omega, by omega⟩ (fun h_22 => ?_) (fun h_22 => ?_)
    · have e_5 : mgF ics a b i = mgF ics a b (i + 1) := by first | exact mgF_t (by assumption) | exact mgF_f (by assumption)
      refine KK.we (w' := [(ti, .inr (2, [.int (iI (((ni : Nat) : Int))), .ref o1, .ref o2, .ref o3, .ref o4, .ref o5])), (o1, cI G 20 iow), (o2, cI G 20 ilv), (o3, cI G 20 ist), (o4, cI G 20 ien), (o5, cI G 20 (mgF ics a b (i + 1)))]) (by rw [e_5]) ?_
      refine kz_aload_n (pc := 33) fx 0 dX0_merge_33 rfl ?_
      refine kz_get (pc := 34) (ci := 2) (C := RX0) (T := TX0) (N := 6) (ref := "Statusboard$Incidents") (v := .ref o5) fx 0 5 rfl rfl (fun u h => List.mem_cons_of_mem _ (pu_X0 u h)) (by decide) (List.mem_cons_of_mem _ (pt_1 102 rfl rfl)) rfl rfl dX0_merge_34 ?_
      refine kz_iload (pc := 37) fx 4 dX0_merge_37 rfl ?_
      refine kz_iald (pc := 39) (f := mgF ics a b (i + 1)) fx 5 i rfl rfl (by omega) (by decide) dX0_merge_39 ?_
      refine kz_iload_n (pc := 40) fx 1 dX0_merge_40 rfl ?_
      refine kz_icmp_ne (pc := 41) fx 47 dX0_merge_41 (by decide) ⟨by omega, by omega⟩ ⟨by omega, by omega⟩ (fun h_41 => ?_) (fun h_41 => ?_)
      · refine kz_iinc (pc := 47) (k := 4) (lv' := [(4, .int (iI (((i : Nat) : Int) + 1))), (0, .ref ti), (1, .int (iI (a))), (2, .int (iI (b))), (3, .int (iI (((cN (fun k => decide (mgF ics a b (k + 1) k = a)) i : Nat) : Int))))]) fx dX0_merge_47 rfl (by decide) rfl ?_
        refine kz_goto (pc := 50) (tgt := 5) fx dX0_merge_50 (by decide) ?_
        refine KK.sub (ks := [1, 2, 3, 4, 0]) (lv' := [(0, .ref ti), (1, .int (iI (a))), (2, .int (iI (b))), (3, .int (iI (((cN (fun k => decide (mgF ics a b (k + 1) k = a)) i : Nat) : Int)))), (4, .int (iI (((i : Nat) : Int) + 1)))]) rfl ?_
        have e_6 : (((cN (fun k => decide (mgF ics a b (k + 1) k = a)) i : Nat) : Int) : Int) = ((cN (fun k => decide (mgF ics a b (k + 1) k = a)) ((i + 1)) : Nat) : Int) := by first | (rw [cN_t (decide_eq_true (by assumption))]; omega) | (rw [cN_f (decide_eq_false (by assumption))])
        have e_7 : (((i : Nat) : Int) + 1 : Int) = ((((i + 1)) : Nat) : Int) := by first | rfl | omega
        refine KK.lve (lv' := [(0, .ref ti), (1, .int (iI (a))), (2, .int (iI (b))), (3, .int (iI (((cN (fun k => decide (mgF ics a b (k + 1) k = a)) ((i + 1)) : Nat) : Int)))), (4, .int (iI (((((i + 1)) : Nat) : Int))))]) (lv_k (lv_k (lv_k (lv_c e_6 (lv_c e_7 rfl))))) ?_
        have e_8 : mgF ics a b (i + 1) = mgF ics a b ((i + 1)) := by rfl
        refine KK.we (w' := [(ti, .inr (2, [.int (iI (((ni : Nat) : Int))), .ref o1, .ref o2, .ref o3, .ref o4, .ref o5])), (o1, cI G 20 iow), (o2, cI G 20 ilv), (o3, cI G 20 ist), (o4, cI G 20 ien), (o5, cI G 20 (mgF ics a b ((i + 1))))]) (by rw [e_8]) ?_
        have q_9 : ((i + 1)) ≤ ni := by omega
        have m_10 : ni - ((i + 1)) < ni - i := by omega
        exact ih_5 (i + 1) q_9 m_10
      · refine kz_iinc (pc := 44) (k := 3) (lv' := [(3, .int (iI (((cN (fun k => decide (mgF ics a b (k + 1) k = a)) i : Nat) : Int) + 1))), (0, .ref ti), (1, .int (iI (a))), (2, .int (iI (b))), (4, .int (iI (((i : Nat) : Int))))]) fx dX0_merge_44 rfl (by decide) rfl ?_
        refine kz_iinc (pc := 47) (k := 4) (lv' := [(4, .int (iI (((i : Nat) : Int) + 1))), (3, .int (iI (((cN (fun k => decide (mgF ics a b (k + 1) k = a)) i : Nat) : Int) + 1))), (0, .ref ti), (1, .int (iI (a))), (2, .int (iI (b)))]) fx dX0_merge_47 rfl (by decide) rfl ?_
        refine kz_goto (pc := 50) (tgt := 5) fx dX0_merge_50 (by decide) ?_
        refine KK.sub (ks := [2, 3, 4, 1, 0]) (lv' := [(0, .ref ti), (1, .int (iI (a))), (2, .int (iI (b))), (3, .int (iI (((cN (fun k => decide (mgF ics a b (k + 1) k = a)) i : Nat) : Int) + 1))), (4, .int (iI (((i : Nat) : Int) + 1)))]) rfl ?_
        have e_11 : (((cN (fun k => decide (mgF ics a b (k + 1) k = a)) i : Nat) : Int) + 1 : Int) = ((cN (fun k => decide (mgF ics a b (k + 1) k = a)) ((i + 1)) : Nat) : Int) := by first | (rw [cN_t (decide_eq_true (by assumption))]; omega) | (rw [cN_f (decide_eq_false (by assumption))])
        have e_12 : (((i : Nat) : Int) + 1 : Int) = ((((i + 1)) : Nat) : Int) := by first | rfl | omega
        refine KK.lve (lv' := [(0, .ref ti), (1, .int (iI (a))), (2, .int (iI (b))), (3, .int (iI (((cN (fun k => decide (mgF ics a b (k + 1) k = a)) ((i + 1)) : Nat) : Int)))), (4, .int (iI (((((i + 1)) : Nat) : Int))))]) (lv_k (lv_k (lv_k (lv_c e_11 (lv_c e_12 rfl))))) ?_
        have e_13 : mgF ics a b (i + 1) = mgF ics a b ((i + 1)) := by rfl
        refine KK.we (w' := [(ti, .inr (2, [.int (iI (((ni : Nat) : Int))), .ref o1, .ref o2, .ref o3, .ref o4, .ref o5])), (o1, cI G 20 iow), (o2, cI G 20 ilv), (o3, cI G 20 ist), (o4, cI G 20 ien), (o5, cI G 20 (mgF ics a b ((i + 1))))]) (by rw [e_13]) ?_
        have q_14 : ((i + 1)) ≤ ni := by omega
        have m_15 : ni - ((i + 1)) < ni - i := by omega
        exact ih_5 (i + 1) q_14 m_15
    · refine kz_aload_n (pc := 25) fx 0 dX0_merge_25 rfl ?_
      refine kz_get (pc := 26) (ci := 2) (C := RX0) (T := TX0) (N := 6) (ref := "Statusboard$Incidents") (v := .ref o5) fx 0 5 rfl rfl (fun u h => List.mem_cons_of_mem _ (pu_X0 u h)) (by decide) (List.mem_cons_of_mem _ (pt_1 102 rfl rfl)) rfl rfl dX0_merge_26 ?_
      refine kz_iload (pc := 29) fx 4 dX0_merge_29 rfl ?_
      refine kz_iload_n (pc := 31) fx 1 dX0_merge_31 rfl ?_
      refine kz_iast (pc := 32) (f := mgF ics a b i) (w' := [(ti, .inr (2, [.int (iI (((ni : Nat) : Int))), .ref o1, .ref o2, .ref o3, .ref o4, .ref o5])), (o1, cI G 20 iow), (o2, cI G 20 ilv), (o3, cI G 20 ist), (o4, cI G 20 ien), (o5, cI G 20 (zup (mgF ics a b i) i a))]) fx 5 i rfl rfl (by omega) (by decide) dX0_merge_32 rfl ?_
      have e_16 : zup (mgF ics a b i) i a = mgF ics a b (i + 1) := by first | exact mgF_t (by assumption) | exact mgF_f (by assumption)
      refine KK.we (w' := [(ti, .inr (2, [.int (iI (((ni : Nat) : Int))), .ref o1, .ref o2, .ref o3, .ref o4, .ref o5])), (o1, cI G 20 iow), (o2, cI G 20 ilv), (o3, cI G 20 ist), (o4, cI G 20 ien), (o5, cI G 20 (mgF ics a b (i + 1)))]) (by rw [e_16]) ?_
      refine kz_aload_n (pc := 33) fx 0 dX0_merge_33 rfl ?_
      refine kz_get (pc := 34) (ci := 2) (C := RX0) (T := TX0) (N := 6) (ref := "Statusboard$Incidents") (v := .ref o5) fx 0 5 rfl rfl (fun u h => List.mem_cons_of_mem _ (pu_X0 u h)) (by decide) (List.mem_cons_of_mem _ (pt_1 102 rfl rfl)) rfl rfl dX0_merge_34 ?_
      refine kz_iload (pc := 37) fx 4 dX0_merge_37 rfl ?_
      refine kz_iald (pc := 39) (f := mgF ics a b (i + 1)) fx 5 i rfl rfl (by omega) (by decide) dX0_merge_39 ?_
      refine kz_iload_n (pc := 40) fx 1 dX0_merge_40 rfl ?_
      refine kz_icmp_ne (pc := 41) fx 47 dX0_merge_41 (by decide) ⟨by omega, by omega⟩ ⟨by omega, by omega⟩ (fun h_41 => ?_) (fun h_41 => ?_)
      · refine kz_iinc (pc := 47) (k := 4) (lv' := [(4, .int (iI (((i : Nat) : Int) + 1))), (0, .ref ti), (1, .int (iI (a))), (2, .int (iI (b))), (3, .int (iI (((cN (fun k => decide (mgF ics a b (k + 1) k = a)) i : Nat) : Int))))]) fx dX0_merge_47 rfl (by decide) rfl ?_
        refine kz_goto (pc := 50) (tgt := 5) fx dX0_merge_50 (by decide) ?_
        refine KK.sub (ks := [1, 2, 3, 4, 0]) (lv' := [(0, .ref ti), (1, .int (iI (a))), (2, .int (iI (b))), (3, .int (iI (((cN (fun k => decide (mgF ics a b (k + 1) k = a)) i : Nat) : Int)))), (4, .int (iI (((i : Nat) : Int) + 1)))]) rfl ?_
        have e_17 : (((cN (fun k => decide (mgF ics a b (k + 1) k = a)) i : Nat) : Int) : Int) = ((cN (fun k => decide (mgF ics a b (k + 1) k = a)) ((i + 1)) : Nat) : Int) := by first | (rw [cN_t (decide_eq_true (by assumption))]; omega) | (rw [cN_f (decide_eq_false (by assumption))])
        have e_18 : (((i : Nat) : Int) + 1 : Int) = ((((i + 1)) : Nat) : Int) := by first | rfl | omega
        refine KK.lve (lv' := [(0, .ref ti), (1, .int (iI (a))), (2, .int (iI (b))), (3, .int (iI (((cN (fun k => decide (mgF ics a b (k + 1) k = a)) ((i + 1)) : Nat) : Int)))), (4, .int (iI (((((i + 1)) : Nat) : Int))))]) (lv_k (lv_k (lv_k (lv_c e_17 (lv_c e_18 rfl))))) ?_
        have e_19 : mgF ics a b (i + 1) = mgF ics a b ((i + 1)) := by rfl
        refine KK.we (w' := [(ti, .inr (2, [.int (iI (((ni : Nat) : Int))), .ref o1, .ref o2, .ref o3, .ref o4, .ref o5])), (o1, cI G 20 iow), (o2, cI G 20 ilv), (o3, cI G 20 ist), (o4, cI G 20 ien), (o5, cI G 20 (mgF ics a b ((i + 1))))]) (by rw [e_19]) ?_
        have q_20 : ((i + 1)) ≤ ni := by omega
        have m_21 : ni - ((i + 1)) < ni - i := by omega
        exact ih_5 (i + 1) q_20 m_21
      · refine kz_iinc (pc := 44) (k := 3) (lv' := [(3, .int (iI (((cN (fun k => decide (mgF ics a b (k + 1) k = a)) i : Nat) : Int) + 1))), (0, .ref ti), (1, .int (iI (a))), (2, .int (iI (b))), (4, .int (iI (((i : Nat) : Int))))]) fx dX0_merge_44 rfl (by decide) rfl ?_
        refine kz_iinc (pc := 47) (k := 4) (lv' := [(4, .int (iI (((i : Nat) : Int) + 1))), (3, .int (iI (((cN (fun k => decide (mgF ics a b (k + 1) k = a)) i : Nat) : Int) + 1))), (0, .ref ti), (1, .int (iI (a))), (2, .int (iI (b)))]) fx dX0_merge_47 rfl (by decide) rfl ?_
        refine kz_goto (pc := 50) (tgt := 5) fx dX0_merge_50 (by decide) ?_
        refine KK.sub (ks := [2, 3, 4, 1, 0]) (lv' := [(0, .ref ti), (1, .int (iI (a))), (2, .int (iI (b))), (3, .int (iI (((cN (fun k => decide (mgF ics a b (k + 1) k = a)) i : Nat) : Int) + 1))), (4, .int (iI (((i : Nat) : Int) + 1)))]) rfl ?_
        have e_22 : (((cN (fun k => decide (mgF ics a b (k + 1) k = a)) i : Nat) : Int) + 1 : Int) = ((cN (fun k => decide (mgF ics a b (k + 1) k = a)) ((i + 1)) : Nat) : Int) := by first | (rw [cN_t (decide_eq_true (by assumption))]; omega) | (rw [cN_f (decide_eq_false (by assumption))])
        have e_23 : (((i : Nat) : Int) + 1 : Int) = ((((i + 1)) : Nat) : Int) := by first | rfl | omega
        refine KK.lve (lv' := [(0, .ref ti), (1, .int (iI (a))), (2, .int (iI (b))), (3, .int (iI (((cN (fun k => decide (mgF ics a b (k + 1) k = a)) ((i + 1)) : Nat) : Int)))), (4, .int (iI (((((i + 1)) : Nat) : Int))))]) (lv_k (lv_k (lv_k (lv_c e_22 (lv_c e_23 rfl))))) ?_
        have e_24 : mgF ics a b (i + 1) = mgF ics a b ((i + 1)) := by rfl
        refine KK.we (w' := [(ti, .inr (2, [.int (iI (((ni : Nat) : Int))), .ref o1, .ref o2, .ref o3, .ref o4, .ref o5])), (o1, cI G 20 iow), (o2, cI G 20 ilv), (o3, cI G 20 ist), (o4, cI G 20 ien), (o5, cI G 20 (mgF ics a b ((i + 1))))]) (by rw [e_24]) ?_
        have q_25 : ((i + 1)) ≤ ni := by omega
        have m_26 : ni - ((i + 1)) < ni - i := by omega
        exact ih_5 (i + 1) q_25 m_26
set_option maxRecDepth 100000 in
set_option maxHeartbeats 4000000 in
/-- coveredMinutes -/
theorem c_coveredMinutes (G : GX) (l : Launch) (hlt : l.stackTraces = false) (ti : Nat) (o1 : Nat) (o2 : Nat) (o3 : Nat) (o4 : Nat) (o5 : Nat) (ni : Nat) (iow : Nat → Int) (ilv : Nat → Int) (ist : Nat → Int) (ien : Nat → Int) (ics : Nat → Int) (x : Int) (b : Nat) (hni : ni ≤ 20) (rist : ∀ j, 0 ≤ ist j ∧ ist j ≤ 10000) (rien : ∀ j, -1 ≤ ien j ∧ ien j ≤ 10000) (rics : ∀ j, 0 ≤ ics j ∧ ics j < 20) (hx : -2147483648 ≤ x ∧ x < 2147483648) (hb : b ≤ 10000) : HC G l yX0_coveredMinutes wsX0_coveredMinutes 3 66 0 0 [.ref ti, .int (iI (x)), .int (iI (((b : Nat) : Int)))] [(ti, .inr (2, [.int (iI (((ni : Nat) : Int))), .ref o1, .ref o2, .ref o3, .ref o4, .ref o5])), (o1, cI G 20 iow), (o2, cI G 20 ilv), (o3, cI G 20 ist), (o4, cI G 20 ien), (o5, cI G 20 ics)] (rt (some (.int (iI (sW 0 (fun t => bI ((fun t : Nat => anyN (fun k => decide (ics k = x) && covB ist ien k ((t : Nat) : Int)) ni) t)) b)))) [(ti, .inr (2, [.int (iI (((ni : Nat) : Int))), .ref o1, .ref o2, .ref o3, .ref o4, .ref o5])), (o1, cI G 20 iow), (o2, cI G 20 ilv), (o3, cI G 20 ist), (o4, cI G 20 ien), (o5, cI G 20 ics)]) := by
  refine kz_start cX0_coveredMinutes 7 (some .int) [(0, .ref ti), (1, .int (iI (x))), (2, .int (iI (((b : Nat) : Int))))] hlt (by decide) rfl (Nat.le_of_ble_eq_true rfl) rfl (fun X fx rx => ?_)
  refine kz_iconst (pc := 0) fx dX0_coveredMinutes_0 ?_
  refine kz_istore_n (pc := 1) (lv' := [(3, .int (iI (0))), (0, .ref ti), (1, .int (iI (x))), (2, .int (iI (((b : Nat) : Int))))]) fx dX0_coveredMinutes_1 rfl (by decide) rfl ?_
  refine kz_iconst (pc := 2) fx dX0_coveredMinutes_2 ?_
  refine kz_istore (pc := 3) (lv' := [(4, .int (iI (0))), (3, .int (iI (0))), (0, .ref ti), (1, .int (iI (x))), (2, .int (iI (((b : Nat) : Int))))]) fx dX0_coveredMinutes_3 (by decide) rfl ?_
  refine kz_iconst (pc := 5) fx dX0_coveredMinutes_5 ?_
  refine kz_istore (pc := 6) (lv' := [(5, .int (iI (0))), (4, .int (iI (0))), (3, .int (iI (0))), (0, .ref ti), (1, .int (iI (x))), (2, .int (iI (((b : Nat) : Int))))]) fx dX0_coveredMinutes_6 (by decide) rfl ?_
  refine KK.sub (ks := [3, 4, 5, 2, 1, 0]) (lv' := [(0, .ref ti), (1, .int (iI (x))), (2, .int (iI (((b : Nat) : Int)))), (3, .int (iI (0))), (4, .int (iI (0))), (5, .int (iI (0)))]) rfl ?_
  have e_1 : (0 : Int) = sW 0 (fun t => bI ((fun t : Nat => anyN (fun k => decide (ics k = x) && covB ist ien k ((t : Nat) : Int)) ni) t)) 0 := by first | rfl | omega
  have e_2 : (0 : Int) = ((0 : Nat) : Int) := by first | rfl | omega
  have e_3 : (0 : Int) = ((0 : Nat) : Int) := by first | rfl | omega
  refine KK.lve (lv' := [(0, .ref ti), (1, .int (iI (x))), (2, .int (iI (((b : Nat) : Int)))), (3, .int (iI (sW 0 (fun t => bI ((fun t : Nat => anyN (fun k => decide (ics k = x) && covB ist ien k ((t : Nat) : Int)) ni) t)) 0))), (4, .int (iI (((0 : Nat) : Int)))), (5, .int (iI (((0 : Nat) : Int))))]) (lv_k (lv_k (lv_k (lv_c e_1 (lv_c e_2 (lv_c e_3 rfl)))))) ?_
  have i_4 : 0 ≤ 0 := Nat.le_refl 0
  have i_5 : 0 ≤ b := Nat.zero_le b
  refine kz_loop (σ := Nat × Nat) (fun z => b - (z.2)) (fun z => ((z.1) ≤ (z.2)) ∧ ((z.2) ≤ b)) (fun z => KK X G [(0, .ref ti), (1, .int (iI (x))), (2, .int (iI (((b : Nat) : Int)))), (3, .int (iI (sW 0 (fun t => bI ((fun t : Nat => anyN (fun k => decide (ics k = x) && covB ist ien k ((t : Nat) : Int)) ni) t)) (z.2)))), (4, .int (iI ((((z.2) : Nat) : Int)))), (5, .int (iI ((((z.1) : Nat) : Int))))] [(ti, .inr (2, [.int (iI (((ni : Nat) : Int))), .ref o1, .ref o2, .ref o3, .ref o4, .ref o5])), (o1, cI G 20 iow), (o2, cI G 20 ilv), (o3, cI G 20 ist), (o4, cI G 20 ien), (o5, cI G 20 ics)] 0 0 8 []) ?_ (0, 0) ⟨i_4, i_5⟩
  rintro ⟨span, aa⟩ ⟨hs, ha⟩ ih_8
  have hs : span ≤ aa := hs
  have ha : aa ≤ b := ha
  show KK X G [(0, .ref ti), (1, .int (iI (x))), (2, .int (iI (((b : Nat) : Int)))), (3, .int (iI (sW 0 (fun t => bI ((fun t : Nat => anyN (fun k => decide (ics k = x) && covB ist ien k ((t : Nat) : Int)) ni) t)) aa))), (4, .int (iI (((aa : Nat) : Int)))), (5, .int (iI (((span : Nat) : Int))))] [(ti, .inr (2, [.int (iI (((ni : Nat) : Int))), .ref o1, .ref o2, .ref o3, .ref o4, .ref o5])), (o1, cI G 20 iow), (o2, cI G 20 ilv), (o3, cI G 20 ist), (o4, cI G 20 ien), (o5, cI G 20 ics)] 0 0 8 []
  have hsr := sW_rb (a := 0) (fun t : Nat => anyN (fun k => decide (ics k = x) && covB ist ien k ((t : Nat) : Int)) ni) (Nat.zero_le aa)
  refine kz_iload (pc := 8) fx 5 dX0_coveredMinutes_8 rfl ?_
  refine kz_sipush (pc := 10) fx dX0_coveredMinutes_10 (by decide +kernel) ?_
  refine kz_icmp_ge (pc := 13) fx 59 dX0_coveredMinutes_13 (by decide) ⟨by omega, by omega⟩ ⟨by decide, by decide⟩ (fun h_13 => ?_) (fun h_13 => ?_)
  · refine kz_iload_n (pc := 59) fx 3 dX0_coveredMinutes_59 rfl ?_
    refine kz_iret (pc := 60) fx rx dX0_coveredMinutes_60 (by decide) (by decide) ?_
    exact rt_i (by rw [show aa = b by omega]) (rfl)
  · refine kz_iload (pc := 16) fx 4 dX0_coveredMinutes_16 rfl ?_
    refine kz_iload_n (pc := 18) fx 2 dX0_coveredMinutes_18 rfl ?_
    refine kz_icmp_ge (pc := 19) fx 59 dX0_coveredMinutes_19 (by decide) ⟨by omega, by omega⟩ ⟨by omega, by omega⟩ (fun h_19 => ?_) (fun h_19 => ?_)
    · refine kz_iload_n (pc := 59) fx 3 dX0_coveredMinutes_59 rfl ?_
      refine kz_iret (pc := 60) fx rx dX0_coveredMinutes_60 (by decide) (by decide) ?_
      exact rt_i (by rw [show aa = b by omega]) (rfl)
    · refine kz_aload_n (pc := 22) fx 0 dX0_coveredMinutes_22 rfl ?_
      refine kz_iload (pc := 23) fx 4 dX0_coveredMinutes_23 rfl ?_
      refine kz_iload_n (pc := 25) fx 2 dX0_coveredMinutes_25 rfl ?_
      refine kz_callV (pc := 26) (As := [.int (iI (((aa : Nat) : Int))), .int (iI (((b : Nat) : Int)))]) (st := []) (q0 := 0) (wc := [(ti, .inr (2, [.int (iI (((ni : Nat) : Int))), .ref o1, .ref o2, .ref o3, .ref o4, .ref o5])), (o1, cI G 20 iow), (o2, cI G 20 ilv), (o3, cI G 20 ist), (o4, cI G 20 ien), (o5, cI G 20 ics)]) fx (c_I_nextChange G l hlt ti o1 o2 o3 o4 o5 ni iow ilv ist ien ics ((aa : Nat) : Int) ((b : Nat) : Int) hni rist rien (by first | assumption | omega) (by first | assumption | omega)) rt_ne (gu_V (pt_4 145 rfl rfl) (pt_4 61 rfl rfl) (pt_4 62 rfl rfl) (pt_1 4 rfl rfl) (pt_4 63 rfl rfl)) rfl ⟨rfl, by decide, by decide, rfl⟩ (by decide) [0, 1, 2, 3, 4, 5] (by decide) rfl rfl rfl rfl (Nat.le_of_ble_eq_true rfl) dX0_coveredMinutes_26 (by decide) (by decide) (kc_rt (r := some (.int (iI (ncZ ist ien (((aa : Nat) : Int)) (((b : Nat) : Int)) ni)))) (w1 := [(ti, .inr (2, [.int (iI (((ni : Nat) : Int))), .ref o1, .ref o2, .ref o3, .ref o4, .ref o5])), (o1, cI G 20 iow), (o2, cI G 20 ilv), (o3, cI G 20 ist), (o4, cI G 20 ien), (o5, cI G 20 ics)]) (w' := [(ti, .inr (2, [.int (iI (((ni : Nat) : Int))), .ref o1, .ref o2, .ref o3, .ref o4, .ref o5])), (o1, cI G 20 iow), (o2, cI G 20 ilv), (o3, cI G 20 ist), (o4, cI G 20 ien), (o5, cI G 20 ics)]) (is9 := [0, 1, 2, 3, 4, 5]) (stk' := [.int (iI (ncZ ist ien (((aa : Nat) : Int)) (((b : Nat) : Int)) ni))]) rfl (by decide) rfl ?_)
      obtain ⟨nx, hnx⟩ : ∃ nx : Nat, ncZ ist ien (((aa : Nat) : Int)) (((b : Nat) : Int)) ni = ((nx : Nat) : Int) := ⟨(ncZ ist ien (((aa : Nat) : Int)) (((b : Nat) : Int)) ni).toNat, by have := ncZ_in (a := ist) (b := ien) (u := ((aa : Nat) : Int)) (e := ((b : Nat) : Int)) (by omega) ni; omega⟩
      have hin := ncZ_in (a := ist) (b := ien) (u := ((aa : Nat) : Int)) (e := ((b : Nat) : Int)) (by omega) ni
      rw [hnx] at hin ⊢
      have hcon : ∀ t, aa ≤ t → t < nx → (fun t : Nat => anyN (fun k => decide (ics k = x) && covB ist ien k ((t : Nat) : Int)) ni) t = (fun t : Nat => anyN (fun k => decide (ics k = x) && covB ist ien k ((t : Nat) : Int)) ni) aa := fun t h1 h2 => anyN_cong (fun k hk => by
        have h3 := ncZ_no (a := ist) (b := ien) (u := ((aa : Nat) : Int)) (e := ((b : Nat) : Int)) ni k hk
        rw [hnx] at h3
        rw [cov_k (x := (nx : Int)) (by omega) (by omega) h3.1 h3.2])
      refine kz_istore (pc := 29) (lv' := [(6, .int (iI (((nx : Nat) : Int)))), (0, .ref ti), (1, .int (iI (x))), (2, .int (iI (((b : Nat) : Int)))), (3, .int (iI (sW 0 (fun t => bI ((fun t : Nat => anyN (fun k => decide (ics k = x) && covB ist ien k ((t : Nat) : Int)) ni) t)) aa))), (4, .int (iI (((aa : Nat) : Int)))), (5, .int (iI (((span : Nat) : Int))))]) fx dX0_coveredMinutes_29 (by decide) rfl ?_
      refine kz_aload_n (pc := 31) fx 1 dX0_coveredMinutes_31 rfl ?_
      refine kz_iload_n (pc := 32) fx 2 dX0_coveredMinutes_32 rfl ?_
      refine kz_iload (pc := 33) fx 5 dX0_coveredMinutes_33 rfl ?_
      refine kz_callV (pc := 35) (As := [.int (iI (x)), .int (iI (((aa : Nat) : Int)))]) (st := []) (q0 := 0) (wc := [(ti, .inr (2, [.int (iI (((ni : Nat) : Int))), .ref o1, .ref o2, .ref o3, .ref o4, .ref o5])), (o1, cI G 20 iow), (o2, cI G 20 ilv), (o3, cI G 20 ist), (o4, cI G 20 ien), (o5, cI G 20 ics)]) fx (c_caseCovers G l hlt ti o1 o2 o3 o4 o5 ni iow ilv ist ien ics x ((aa : Nat) : Int) hni rist rien rics hx (by first | assumption | omega)) rt_ne (gu_V (pt_4 146 rfl rfl) (pt_4 148 rfl rfl) (pt_s 12 rfl rfl) (pt_1 4 rfl rfl) (pt_4 149 rfl rfl)) rfl ⟨rfl, by decide, by decide, rfl⟩ (by decide) [0, 1, 2, 3, 4, 5] (by decide) rfl rfl rfl rfl (Nat.le_of_ble_eq_true rfl) dX0_coveredMinutes_35 (by decide) (by decide) (kc_rt (r := some (.int (iI (bI (anyN (fun k => decide (ics k = x) && covB ist ien k (((aa : Nat) : Int))) ni))))) (w1 := [(ti, .inr (2, [.int (iI (((ni : Nat) : Int))), .ref o1, .ref o2, .ref o3, .ref o4, .ref o5])), (o1, cI G 20 iow), (o2, cI G 20 ilv), (o3, cI G 20 ist), (o4, cI G 20 ien), (o5, cI G 20 ics)]) (w' := [(ti, .inr (2, [.int (iI (((ni : Nat) : Int))), .ref o1, .ref o2, .ref o3, .ref o4, .ref o5])), (o1, cI G 20 iow), (o2, cI G 20 ilv), (o3, cI G 20 ist), (o4, cI G 20 ien), (o5, cI G 20 ics)]) (is9 := [0, 1, 2, 3, 4, 5]) (stk' := [.int (iI (bI (anyN (fun k => decide (ics k = x) && covB ist ien k (((aa : Nat) : Int))) ni)))]) rfl (by decide) rfl ?_)
      refine kz_ifb_eq (pc := 38) fx 49 dX0_coveredMinutes_38 (by decide) (fun h_38 => ?_) (fun h_38 => ?_)
      · refine kz_iload (pc := 49) fx 0 dX0_coveredMinutes_49 rfl ?_
        refine kz_istore (pc := 51) (lv' := [(4, .int (iI (((nx : Nat) : Int)))), (6, .int (iI (((nx : Nat) : Int)))), (0, .ref ti), (1, .int (iI (x))), (2, .int (iI (((b : Nat) : Int)))), (3, .int (iI (sW 0 (fun t => bI ((fun t : Nat => anyN (fun k => decide (ics k = x) && covB ist ien k ((t : Nat) : Int)) ni) t)) aa))), (5, .int (iI (((span : Nat) : Int))))]) fx dX0_coveredMinutes_51 (by decide) rfl ?_
        refine kz_iinc (pc := 53) (k := 6) (lv' := [(5, .int (iI (((span : Nat) : Int) + 1))), (4, .int (iI (((nx : Nat) : Int)))), (6, .int (iI (((nx : Nat) : Int)))), (0, .ref ti), (1, .int (iI (x))), (2, .int (iI (((b : Nat) : Int)))), (3, .int (iI (sW 0 (fun t => bI ((fun t : Nat => anyN (fun k => decide (ics k = x) && covB ist ien k ((t : Nat) : Int)) ni) t)) aa)))]) fx dX0_coveredMinutes_53 rfl (by decide) rfl ?_
        refine kz_goto (pc := 56) (tgt := 8) fx dX0_coveredMinutes_56 (by decide) ?_
        refine KK.sub (ks := [3, 4, 5, 6, 1, 0]) (lv' := [(0, .ref ti), (1, .int (iI (x))), (2, .int (iI (((b : Nat) : Int)))), (3, .int (iI (sW 0 (fun t => bI ((fun t : Nat => anyN (fun k => decide (ics k = x) && covB ist ien k ((t : Nat) : Int)) ni) t)) aa))), (4, .int (iI (((nx : Nat) : Int)))), (5, .int (iI (((span : Nat) : Int) + 1)))]) rfl ?_
        have e_6 : (sW 0 (fun t => bI ((fun t : Nat => anyN (fun k => decide (ics k = x) && covB ist ien k ((t : Nat) : Int)) ni) t)) aa : Int) = sW 0 (fun t => bI ((fun t : Nat => anyN (fun k => decide (ics k = x) && covB ist ien k ((t : Nat) : Int)) ni) t)) nx := by first | (rw [sW_t (p := (fun t : Nat => anyN (fun k => decide (ics k = x) && covB ist ien k ((t : Nat) : Int)) ni)) (Nat.zero_le _) (by omega) hcon (by exact h_38)]) | (rw [sW_f (p := (fun t : Nat => anyN (fun k => decide (ics k = x) && covB ist ien k ((t : Nat) : Int)) ni)) (Nat.zero_le _) (by omega) hcon (by exact h_38)])
        have e_7 : (((span : Nat) : Int) + 1 : Int) = ((((span + 1)) : Nat) : Int) := by first | rfl | omega
        refine KK.lve (lv' := [(0, .ref ti), (1, .int (iI (x))), (2, .int (iI (((b : Nat) : Int)))), (3, .int (iI (sW 0 (fun t => bI ((fun t : Nat => anyN (fun k => decide (ics k = x) && covB ist ien k ((t : Nat) : Int)) ni) t)) nx))), (4, .int (iI (((nx : Nat) : Int)))), (5, .int (iI (((((span + 1)) : Nat) : Int))))]) (lv_k (lv_k (lv_k (lv_c e_6 (lv_k (lv_c e_7 rfl)))))) ?_
        have q_8 : ((span + 1)) ≤ nx := by omega
        have q_9 : nx ≤ b := by omega
        have m_10 : b - nx < b - aa := by omega
        exact ih_8 ((span + 1), nx) ⟨q_8, q_9⟩ m_10
      · refine kz_iload_n (pc := 41) fx 4 dX0_coveredMinutes_41 rfl ?_
        refine kz_iload (pc := 42) fx 0 dX0_coveredMinutes_42 rfl ?_
        refine kz_iload (pc := 44) fx 5 dX0_coveredMinutes_44 rfl ?_
        refine kz_isub (pc := 46) fx dX0_coveredMinutes_46 ?_
        refine kz_iadd (pc := 47) fx dX0_coveredMinutes_47 ?_
        refine kz_istore_n (pc := 48) (lv' := [(3, .int (iI ((sW 0 (fun t => bI ((fun t : Nat => anyN (fun k => decide (ics k = x) && covB ist ien k ((t : Nat) : Int)) ni) t)) aa) + (((nx : Nat) : Int) - ((aa : Nat) : Int))))), (6, .int (iI (((nx : Nat) : Int)))), (0, .ref ti), (1, .int (iI (x))), (2, .int (iI (((b : Nat) : Int)))), (4, .int (iI (((aa : Nat) : Int)))), (5, .int (iI (((span : Nat) : Int))))]) fx dX0_coveredMinutes_48 rfl (by decide) rfl ?_
        refine kz_iload (pc := 49) fx 1 dX0_coveredMinutes_49 rfl ?_
        refine kz_istore (pc := 51) (lv' := [(4, .int (iI (((nx : Nat) : Int)))), (3, .int (iI ((sW 0 (fun t => bI ((fun t : Nat => anyN (fun k => decide (ics k = x) && covB ist ien k ((t : Nat) : Int)) ni) t)) aa) + (((nx : Nat) : Int) - ((aa : Nat) : Int))))), (6, .int (iI (((nx : Nat) : Int)))), (0, .ref ti), (1, .int (iI (x))), (2, .int (iI (((b : Nat) : Int)))), (5, .int (iI (((span : Nat) : Int))))]) fx dX0_coveredMinutes_51 (by decide) rfl ?_
        refine kz_iinc (pc := 53) (k := 6) (lv' := [(5, .int (iI (((span : Nat) : Int) + 1))), (4, .int (iI (((nx : Nat) : Int)))), (3, .int (iI ((sW 0 (fun t => bI ((fun t : Nat => anyN (fun k => decide (ics k = x) && covB ist ien k ((t : Nat) : Int)) ni) t)) aa) + (((nx : Nat) : Int) - ((aa : Nat) : Int))))), (6, .int (iI (((nx : Nat) : Int)))), (0, .ref ti), (1, .int (iI (x))), (2, .int (iI (((b : Nat) : Int))))]) fx dX0_coveredMinutes_53 rfl (by decide) rfl ?_
        refine kz_goto (pc := 56) (tgt := 8) fx dX0_coveredMinutes_56 (by decide) ?_
        refine KK.sub (ks := [4, 5, 6, 2, 1, 0]) (lv' := [(0, .ref ti), (1, .int (iI (x))), (2, .int (iI (((b : Nat) : Int)))), (3, .int (iI ((sW 0 (fun t => bI ((fun t : Nat => anyN (fun k => decide (ics k = x) && covB ist ien k ((t : Nat) : Int)) ni) t)) aa) + (((nx : Nat) : Int) - ((aa : Nat) : Int))))), (4, .int (iI (((nx : Nat) : Int)))), (5, .int (iI (((span : Nat) : Int) + 1)))]) rfl ?_
        have e_11 : ((sW 0 (fun t => bI ((fun t : Nat => anyN (fun k => decide (ics k = x) && covB ist ien k ((t : Nat) : Int)) ni) t)) aa) + (((nx : Nat) : Int) - ((aa : Nat) : Int)) : Int) = sW 0 (fun t => bI ((fun t : Nat => anyN (fun k => decide (ics k = x) && covB ist ien k ((t : Nat) : Int)) ni) t)) nx := by first | (rw [sW_t (p := (fun t : Nat => anyN (fun k => decide (ics k = x) && covB ist ien k ((t : Nat) : Int)) ni)) (Nat.zero_le _) (by omega) hcon (by exact h_38)]) | (rw [sW_f (p := (fun t : Nat => anyN (fun k => decide (ics k = x) && covB ist ien k ((t : Nat) : Int)) ni)) (Nat.zero_le _) (by omega) hcon (by exact h_38)])
        have e_12 : (((span : Nat) : Int) + 1 : Int) = ((((span + 1)) : Nat) : Int) := by first | rfl | omega
        refine KK.lve (lv' := [(0, .ref ti), (1, .int (iI (x))), (2, .int (iI (((b : Nat) : Int)))), (3, .int (iI (sW 0 (fun t => bI ((fun t : Nat => anyN (fun k => decide (ics k = x) && covB ist ien k ((t : Nat) : Int)) ni) t)) nx))), (4, .int (iI (((nx : Nat) : Int)))), (5, .int (iI (((((span + 1)) : Nat) : Int))))]) (lv_k (lv_k (lv_k (lv_c e_11 (lv_k (lv_c e_12 rfl)))))) ?_
        have q_13 : ((span + 1)) ≤ nx := by omega
        have q_14 : nx ≤ b := by omega
        have m_15 : b - nx < b - aa := by omega
        exact ih_8 ((span + 1), nx) ⟨q_13, q_14⟩ m_15
set_option maxRecDepth 100000 in
set_option maxHeartbeats 4000000 in
/-- Maintenance.add -/
theorem c_M_add (G : GX) (l : Launch) (hlt : l.stackTraces = false) (tm : Nat) (m1 : Nat) (m2 : Nat) (m3 : Nat) (nt : Nat) (mkp : Nat → Int) (mfr : Nat → Int) (mto : Nat → Int) (c : Nat) (u : Int) (v : Int) (hnt : nt < 8) (hc : c < 12) : HC G l yX3_add wsX3_add 0 0 0 0 [.ref tm, .int (iI (((c : Nat) : Int))), .int (iI (u)), .int (iI (v))] [(tm, .inr (5, [.int (iI (((nt : Nat) : Int))), .ref m1, .ref m2, .ref m3])), (m1, cI G 8 mkp), (m2, cI G 8 mfr), (m3, cI G 8 mto)] (rt (some (.int (iI (((nt : Nat) : Int))))) [(tm, .inr (5, [.int (iI (((nt + 1 : Nat) : Int))), .ref m1, .ref m2, .ref m3])), (m1, cI G 8 (zup mkp nt ((c : Nat) : Int))), (m2, cI G 8 (zup mfr nt u)), (m3, cI G 8 (zup mto nt v))]) := by
  refine kz_start cX3_add 5 (some .int) [(0, .ref tm), (1, .int (iI (((c : Nat) : Int)))), (2, .int (iI (u))), (3, .int (iI (v)))] hlt (by decide) rfl (Nat.le_of_ble_eq_true rfl) rfl (fun X fx rx => ?_)
  refine kz_aload_n (pc := 0) fx 0 dX3_add_0 rfl ?_
  refine kz_get (pc := 1) (ci := 5) (C := RX3) (T := TX3) (N := 4) (ref := "Statusboard$Maintenance") (v := .int (iI (((nt : Nat) : Int)))) fx 0 0 rfl rfl (fun u h => List.mem_cons_of_mem _ (pu_X3 u h)) (by decide) (List.mem_cons_of_mem _ (pt_1 123 rfl rfl)) rfl rfl dX3_add_1 ?_
  refine kz_istore (pc := 4) (lv' := [(4, .int (iI (((nt : Nat) : Int)))), (0, .ref tm), (1, .int (iI (((c : Nat) : Int)))), (2, .int (iI (u))), (3, .int (iI (v)))]) fx dX3_add_4 (by decide) rfl ?_
  refine kz_aload_n (pc := 6) fx 1 dX3_add_6 rfl ?_
  refine kz_get (pc := 7) (ci := 5) (C := RX3) (T := TX3) (N := 4) (ref := "Statusboard$Maintenance") (v := .ref m1) fx 0 1 rfl rfl (fun u h => List.mem_cons_of_mem _ (pu_X3 u h)) (by decide) (List.mem_cons_of_mem _ (pt_1 125 rfl rfl)) rfl rfl dX3_add_7 ?_
  refine kz_iload (pc := 10) fx 0 dX3_add_10 rfl ?_
  refine kz_iload_n (pc := 12) fx 2 dX3_add_12 rfl ?_
  refine kz_iast (pc := 13) (f := mkp) (w' := [(tm, .inr (5, [.int (iI (((nt : Nat) : Int))), .ref m1, .ref m2, .ref m3])), (m1, cI G 8 (zup mkp nt ((c : Nat) : Int))), (m2, cI G 8 mfr), (m3, cI G 8 mto)]) fx 1 nt rfl rfl (by omega) (by decide) dX3_add_13 rfl ?_
  refine kz_aload_n (pc := 14) fx 1 dX3_add_14 rfl ?_
  refine kz_get (pc := 15) (ci := 5) (C := RX3) (T := TX3) (N := 4) (ref := "Statusboard$Maintenance") (v := .ref m2) fx 0 2 rfl rfl (fun u h => List.mem_cons_of_mem _ (pu_X3 u h)) (by decide) (List.mem_cons_of_mem _ (pt_1 126 rfl rfl)) rfl rfl dX3_add_15 ?_
  refine kz_iload (pc := 18) fx 0 dX3_add_18 rfl ?_
  refine kz_iload_n (pc := 20) fx 3 dX3_add_20 rfl ?_
  refine kz_iast (pc := 21) (f := mfr) (w' := [(tm, .inr (5, [.int (iI (((nt : Nat) : Int))), .ref m1, .ref m2, .ref m3])), (m1, cI G 8 (zup mkp nt ((c : Nat) : Int))), (m2, cI G 8 (zup mfr nt u)), (m3, cI G 8 mto)]) fx 2 nt rfl rfl (by omega) (by decide) dX3_add_21 rfl ?_
  refine kz_aload_n (pc := 22) fx 1 dX3_add_22 rfl ?_
  refine kz_get (pc := 23) (ci := 5) (C := RX3) (T := TX3) (N := 4) (ref := "Statusboard$Maintenance") (v := .ref m3) fx 0 3 rfl rfl (fun u h => List.mem_cons_of_mem _ (pu_X3 u h)) (by decide) (List.mem_cons_of_mem _ (pt_1 128 rfl rfl)) rfl rfl dX3_add_23 ?_
  refine kz_iload (pc := 26) fx 0 dX3_add_26 rfl ?_
  refine kz_iload_n (pc := 28) fx 4 dX3_add_28 rfl ?_
  refine kz_iast (pc := 29) (f := mto) (w' := [(tm, .inr (5, [.int (iI (((nt : Nat) : Int))), .ref m1, .ref m2, .ref m3])), (m1, cI G 8 (zup mkp nt ((c : Nat) : Int))), (m2, cI G 8 (zup mfr nt u)), (m3, cI G 8 (zup mto nt v))]) fx 3 nt rfl rfl (by omega) (by decide) dX3_add_29 rfl ?_
  refine kz_aload_n (pc := 30) fx 1 dX3_add_30 rfl ?_
  refine kz_dup (pc := 31) fx dX3_add_31 rfl ?_
  refine kz_get (pc := 32) (ci := 5) (C := RX3) (T := TX3) (N := 4) (ref := "Statusboard$Maintenance") (v := .int (iI (((nt : Nat) : Int)))) fx 0 0 rfl rfl (fun u h => List.mem_cons_of_mem _ (pu_X3 u h)) (by decide) (List.mem_cons_of_mem _ (pt_1 123 rfl rfl)) rfl rfl dX3_add_32 ?_
  refine kz_iconst (pc := 35) fx dX3_add_35 ?_
  refine kz_iadd (pc := 36) fx dX3_add_36 ?_
  refine kz_put (pc := 37) (ci := 5) (C := RX3) (T := TX3) (N := 4) (ref := "Statusboard$Maintenance") (v := .int (iI (((nt : Nat) : Int) + 1))) (w' := [(tm, .inr (5, [.int (iI (((nt : Nat) : Int) + 1)), .ref m1, .ref m2, .ref m3])), (m1, cI G 8 (zup mkp nt ((c : Nat) : Int))), (m2, cI G 8 (zup mfr nt u)), (m3, cI G 8 (zup mto nt v))]) fx tyX3 0 0 rfl rfl (fun u h => List.mem_cons_of_mem _ (pu_X3 u h)) tyX3_ok nmX3 (by decide) (List.mem_cons_of_mem _ (pt_1 123 rfl rfl)) rfl rfl rfl rfl (Nat.le_of_ble_eq_true rfl) dX3_add_37 rfl ?_
  refine kz_iload (pc := 40) fx 0 dX3_add_40 rfl ?_
  refine kz_iret (pc := 42) fx rx dX3_add_42 (by decide) (by decide) ?_
  exact rt_i (by first | rfl | omega | (simp [*]; done)) (rfl)
set_option maxRecDepth 100000 in
set_option maxHeartbeats 4000000 in
/-- excusedMinutes -/
theorem c_excusedMinutes (G : GX) (l : Launch) (hlt : l.stackTraces = false) (tm : Nat) (m1 : Nat) (m2 : Nat) (m3 : Nat) (nt : Nat) (mkp : Nat → Int) (mfr : Nat → Int) (mto : Nat → Int) (n : Nat) (a : Nat) (b : Nat) (hnt : nt ≤ 8) (rmkp : ∀ j, 0 ≤ mkp j ∧ mkp j < 12) (rmfr : ∀ j, 0 ≤ mfr j ∧ mfr j ≤ 10000) (rmto : ∀ j, 0 ≤ mto j ∧ mto j ≤ 10000) (hn : n < 4096) (hab : a ≤ b) (hb : b ≤ 10000) : HC G l yX3_excusedMinutes wsX3_excusedMinutes 2 46 0 0 [.ref tm, .int (iI (((n : Nat) : Int))), .int (iI (((a : Nat) : Int))), .int (iI (((b : Nat) : Int)))] [(tm, .inr (5, [.int (iI (((nt : Nat) : Int))), .ref m1, .ref m2, .ref m3])), (m1, cI G 8 mkp), (m2, cI G 8 mfr), (m3, cI G 8 mto)] (rt (some (.int (iI (sW a (fun t => bI ((fun t : Nat => anyN (excB mkp mfr mto n ((t : Nat) : Int)) nt) t)) b)))) [(tm, .inr (5, [.int (iI (((nt : Nat) : Int))), .ref m1, .ref m2, .ref m3])), (m1, cI G 8 mkp), (m2, cI G 8 mfr), (m3, cI G 8 mto)]) := by
  refine kz_start cX3_excusedMinutes 8 (some .int) [(0, .ref tm), (1, .int (iI (((n : Nat) : Int)))), (2, .int (iI (((a : Nat) : Int)))), (3, .int (iI (((b : Nat) : Int))))] hlt (by decide) rfl (Nat.le_of_ble_eq_true rfl) rfl (fun X fx rx => ?_)
  refine kz_iconst (pc := 0) fx dX3_excusedMinutes_0 ?_
  refine kz_istore (pc := 1) (lv' := [(4, .int (iI (0))), (0, .ref tm), (1, .int (iI (((n : Nat) : Int)))), (2, .int (iI (((a : Nat) : Int)))), (3, .int (iI (((b : Nat) : Int))))]) fx dX3_excusedMinutes_1 (by decide) rfl ?_
  refine kz_iload_n (pc := 3) fx 3 dX3_excusedMinutes_3 rfl ?_
  refine kz_istore (pc := 4) (lv' := [(5, .int (iI (((a : Nat) : Int)))), (4, .int (iI (0))), (0, .ref tm), (1, .int (iI (((n : Nat) : Int)))), (2, .int (iI (((a : Nat) : Int)))), (3, .int (iI (((b : Nat) : Int))))]) fx dX3_excusedMinutes_4 (by decide) rfl ?_
  refine kz_iconst (pc := 6) fx dX3_excusedMinutes_6 ?_
  refine kz_istore (pc := 7) (lv' := [(6, .int (iI (0))), (5, .int (iI (((a : Nat) : Int)))), (4, .int (iI (0))), (0, .ref tm), (1, .int (iI (((n : Nat) : Int)))), (2, .int (iI (((a : Nat) : Int)))), (3, .int (iI (((b : Nat) : Int))))]) fx dX3_excusedMinutes_7 (by decide) rfl ?_
  refine KK.sub (ks := [3, 4, 5, 6, 2, 1, 0]) (lv' := [(0, .ref tm), (1, .int (iI (((n : Nat) : Int)))), (2, .int (iI (((a : Nat) : Int)))), (3, .int (iI (((b : Nat) : Int)))), (4, .int (iI (0))), (5, .int (iI (((a : Nat) : Int)))), (6, .int (iI (0)))]) rfl ?_
  have e_1 : (0 : Int) = sW a (fun t => bI ((fun t : Nat => anyN (excB mkp mfr mto n ((t : Nat) : Int)) nt) t)) a := by rw [sW_0]
  have e_2 : (0 : Int) = ((0 : Nat) : Int) := by first | rfl | omega
  refine KK.lve (lv' := [(0, .ref tm), (1, .int (iI (((n : Nat) : Int)))), (2, .int (iI (((a : Nat) : Int)))), (3, .int (iI (((b : Nat) : Int)))), (4, .int (iI (sW a (fun t => bI ((fun t : Nat => anyN (excB mkp mfr mto n ((t : Nat) : Int)) nt) t)) a))), (5, .int (iI (((a : Nat) : Int)))), (6, .int (iI (((0 : Nat) : Int))))]) (lv_k (lv_k (lv_k (lv_k (lv_c e_1 (lv_k (lv_c e_2 rfl))))))) ?_
  have i_3 : 0 + a ≤ a := by omega
  have i_4 : a ≤ b := hab
  refine kz_loop (σ := Nat × Nat) (fun z => b - (z.2)) (fun z => ((z.1) + a ≤ (z.2)) ∧ ((z.2) ≤ b)) (fun z => KK X G [(0, .ref tm), (1, .int (iI (((n : Nat) : Int)))), (2, .int (iI (((a : Nat) : Int)))), (3, .int (iI (((b : Nat) : Int)))), (4, .int (iI (sW a (fun t => bI ((fun t : Nat => anyN (excB mkp mfr mto n ((t : Nat) : Int)) nt) t)) (z.2)))), (5, .int (iI ((((z.2) : Nat) : Int)))), (6, .int (iI ((((z.1) : Nat) : Int))))] [(tm, .inr (5, [.int (iI (((nt : Nat) : Int))), .ref m1, .ref m2, .ref m3])), (m1, cI G 8 mkp), (m2, cI G 8 mfr), (m3, cI G 8 mto)] 0 0 9 []) ?_ (0, a) ⟨i_3, i_4⟩
  rintro ⟨span, aa⟩ ⟨hs, ha⟩ ih_9
  have hs : span + a ≤ aa := hs
  have ha : aa ≤ b := ha
  show KK X G [(0, .ref tm), (1, .int (iI (((n : Nat) : Int)))), (2, .int (iI (((a : Nat) : Int)))), (3, .int (iI (((b : Nat) : Int)))), (4, .int (iI (sW a (fun t => bI ((fun t : Nat => anyN (excB mkp mfr mto n ((t : Nat) : Int)) nt) t)) aa))), (5, .int (iI (((aa : Nat) : Int)))), (6, .int (iI (((span : Nat) : Int))))] [(tm, .inr (5, [.int (iI (((nt : Nat) : Int))), .ref m1, .ref m2, .ref m3])), (m1, cI G 8 mkp), (m2, cI G 8 mfr), (m3, cI G 8 mto)] 0 0 9 []
  have haa : a ≤ aa := by omega
  have hsr := sW_rb (a := a) (fun t : Nat => anyN (excB mkp mfr mto n ((t : Nat) : Int)) nt) haa
  refine kz_iload (pc := 9) fx 6 dX3_excusedMinutes_9 rfl ?_
  refine kz_sipush (pc := 11) fx dX3_excusedMinutes_11 (by decide +kernel) ?_
  refine kz_icmp_ge (pc := 14) fx 62 dX3_excusedMinutes_14 (by decide) ⟨by omega, by omega⟩ ⟨by decide, by decide⟩ (fun h_14 => ?_) (fun h_14 => ?_)
  · refine kz_iload (pc := 62) fx 4 dX3_excusedMinutes_62 rfl ?_
    refine kz_iret (pc := 64) fx rx dX3_excusedMinutes_64 (by decide) (by decide) ?_
    exact rt_i (by rw [show aa = b by omega]) (rfl)
  · refine kz_iload (pc := 17) fx 5 dX3_excusedMinutes_17 rfl ?_
    refine kz_iload_n (pc := 19) fx 3 dX3_excusedMinutes_19 rfl ?_
    refine kz_icmp_ge (pc := 20) fx 62 dX3_excusedMinutes_20 (by decide) ⟨by omega, by omega⟩ ⟨by omega, by omega⟩ (fun h_20 => ?_) (fun h_20 => ?_)
    · refine kz_iload (pc := 62) fx 4 dX3_excusedMinutes_62 rfl ?_
      refine kz_iret (pc := 64) fx rx dX3_excusedMinutes_64 (by decide) (by decide) ?_
      exact rt_i (by rw [show aa = b by omega]) (rfl)
    · refine kz_aload_n (pc := 23) fx 0 dX3_excusedMinutes_23 rfl ?_
      refine kz_iload (pc := 24) fx 5 dX3_excusedMinutes_24 rfl ?_
      refine kz_iload_n (pc := 26) fx 3 dX3_excusedMinutes_26 rfl ?_
      refine kz_callV (pc := 27) (As := [.int (iI (((aa : Nat) : Int))), .int (iI (((b : Nat) : Int)))]) (st := []) (q0 := 0) (wc := [(tm, .inr (5, [.int (iI (((nt : Nat) : Int))), .ref m1, .ref m2, .ref m3])), (m1, cI G 8 mkp), (m2, cI G 8 mfr), (m3, cI G 8 mto)]) fx (c_M_nextChange G l hlt tm m1 m2 m3 nt mkp mfr mto ((aa : Nat) : Int) ((b : Nat) : Int) hnt rmfr rmto (by first | assumption | omega) (by first | assumption | omega)) rt_ne (gu_V (pt_4 40 rfl rfl) (pt_4 41 rfl rfl) (pt_4 42 rfl rfl) (pt_1 5 rfl rfl) (pt_4 43 rfl rfl)) rfl ⟨rfl, by decide, by decide, rfl⟩ (by decide) [0, 1, 2, 3] (by decide) rfl rfl rfl rfl (Nat.le_of_ble_eq_true rfl) dX3_excusedMinutes_27 (by decide) (by decide) (kc_rt (r := some (.int (iI (ncZ mfr mto (((aa : Nat) : Int)) (((b : Nat) : Int)) nt)))) (w1 := [(tm, .inr (5, [.int (iI (((nt : Nat) : Int))), .ref m1, .ref m2, .ref m3])), (m1, cI G 8 mkp), (m2, cI G 8 mfr), (m3, cI G 8 mto)]) (w' := [(tm, .inr (5, [.int (iI (((nt : Nat) : Int))), .ref m1, .ref m2, .ref m3])), (m1, cI G 8 mkp), (m2, cI G 8 mfr), (m3, cI G 8 mto)]) (is9 := [0, 1, 2, 3]) (stk' := [.int (iI (ncZ mfr mto (((aa : Nat) : Int)) (((b : Nat) : Int)) nt))]) rfl (by decide) rfl ?_)
      obtain ⟨nx, hnx⟩ : ∃ nx : Nat, ncZ mfr mto (((aa : Nat) : Int)) (((b : Nat) : Int)) nt = ((nx : Nat) : Int) := ⟨(ncZ mfr mto (((aa : Nat) : Int)) (((b : Nat) : Int)) nt).toNat, by have := ncZ_in (a := mfr) (b := mto) (u := ((aa : Nat) : Int)) (e := ((b : Nat) : Int)) (by omega) nt; omega⟩
      have hin := ncZ_in (a := mfr) (b := mto) (u := ((aa : Nat) : Int)) (e := ((b : Nat) : Int)) (by omega) nt
      rw [hnx] at hin ⊢
      have hcon : ∀ t, aa ≤ t → t < nx → (fun t : Nat => anyN (excB mkp mfr mto n ((t : Nat) : Int)) nt) t = (fun t : Nat => anyN (excB mkp mfr mto n ((t : Nat) : Int)) nt) aa := fun t h1 h2 => anyN_cong (fun k hk => by
        have h3 := ncZ_no (a := mfr) (b := mto) (u := ((aa : Nat) : Int)) (e := ((b : Nat) : Int)) nt k hk
        rw [hnx] at h3
        rw [exc_k (x := (nx : Int)) (by omega) (by omega) h3.1 h3.2])
      refine kz_istore (pc := 30) (lv' := [(7, .int (iI (((nx : Nat) : Int)))), (0, .ref tm), (1, .int (iI (((n : Nat) : Int)))), (2, .int (iI (((a : Nat) : Int)))), (3, .int (iI (((b : Nat) : Int)))), (4, .int (iI (sW a (fun t => bI ((fun t : Nat => anyN (excB mkp mfr mto n ((t : Nat) : Int)) nt) t)) aa))), (5, .int (iI (((aa : Nat) : Int)))), (6, .int (iI (((span : Nat) : Int))))]) fx dX3_excusedMinutes_30 (by decide) rfl ?_
      refine kz_aload_n (pc := 32) fx 1 dX3_excusedMinutes_32 rfl ?_
      refine kz_iload_n (pc := 33) fx 2 dX3_excusedMinutes_33 rfl ?_
      refine kz_iload (pc := 34) fx 6 dX3_excusedMinutes_34 rfl ?_
      refine kz_callV (pc := 36) (As := [.int (iI (((n : Nat) : Int))), .int (iI (((aa : Nat) : Int)))]) (st := []) (q0 := 0) (wc := [(tm, .inr (5, [.int (iI (((nt : Nat) : Int))), .ref m1, .ref m2, .ref m3])), (m1, cI G 8 mkp), (m2, cI G 8 mfr), (m3, cI G 8 mto)]) fx (c_excuses G l hlt tm m1 m2 m3 nt mkp mfr mto n ((aa : Nat) : Int) hnt rmkp rmfr rmto hn (by first | assumption | omega)) rt_ne (gu_V (pt_4 47 rfl rfl) (pt_3 44 rfl rfl) (pt_3 45 rfl rfl) (pt_1 5 rfl rfl) (pt_3 46 rfl rfl)) rfl ⟨rfl, by decide, by decide, rfl⟩ (by decide) [0, 1, 2, 3] (by decide) rfl rfl rfl rfl (Nat.le_of_ble_eq_true rfl) dX3_excusedMinutes_36 (by decide) (by decide) (kc_rt (r := some (.int (iI (bI (anyN (excB mkp mfr mto n (((aa : Nat) : Int))) nt))))) (w1 := [(tm, .inr (5, [.int (iI (((nt : Nat) : Int))), .ref m1, .ref m2, .ref m3])), (m1, cI G 8 mkp), (m2, cI G 8 mfr), (m3, cI G 8 mto)]) (w' := [(tm, .inr (5, [.int (iI (((nt : Nat) : Int))), .ref m1, .ref m2, .ref m3])), (m1, cI G 8 mkp), (m2, cI G 8 mfr), (m3, cI G 8 mto)]) (is9 := [0, 1, 2, 3]) (stk' := [.int (iI (bI (anyN (excB mkp mfr mto n (((aa : Nat) : Int))) nt)))]) rfl (by decide) rfl ?_)
      refine kz_ifb_eq (pc := 39) fx 52 dX3_excusedMinutes_39 (by decide) (fun h_39 => ?_) (fun h_39 => ?_)
      · refine kz_iload (pc := 52) fx 0 dX3_excusedMinutes_52 rfl ?_
        refine kz_istore (pc := 54) (lv' := [(5, .int (iI (((nx : Nat) : Int)))), (7, .int (iI (((nx : Nat) : Int)))), (0, .ref tm), (1, .int (iI (((n : Nat) : Int)))), (2, .int (iI (((a : Nat) : Int)))), (3, .int (iI (((b : Nat) : Int)))), (4, .int (iI (sW a (fun t => bI ((fun t : Nat => anyN (excB mkp mfr mto n ((t : Nat) : Int)) nt) t)) aa))), (6, .int (iI (((span : Nat) : Int))))]) fx dX3_excusedMinutes_54 (by decide) rfl ?_
        refine kz_iinc (pc := 56) (k := 7) (lv' := [(6, .int (iI (((span : Nat) : Int) + 1))), (5, .int (iI (((nx : Nat) : Int)))), (7, .int (iI (((nx : Nat) : Int)))), (0, .ref tm), (1, .int (iI (((n : Nat) : Int)))), (2, .int (iI (((a : Nat) : Int)))), (3, .int (iI (((b : Nat) : Int)))), (4, .int (iI (sW a (fun t => bI ((fun t : Nat => anyN (excB mkp mfr mto n ((t : Nat) : Int)) nt) t)) aa)))]) fx dX3_excusedMinutes_56 rfl (by decide) rfl ?_
        refine kz_goto (pc := 59) (tgt := 9) fx dX3_excusedMinutes_59 (by decide) ?_
        refine KK.sub (ks := [3, 4, 5, 6, 7, 1, 0]) (lv' := [(0, .ref tm), (1, .int (iI (((n : Nat) : Int)))), (2, .int (iI (((a : Nat) : Int)))), (3, .int (iI (((b : Nat) : Int)))), (4, .int (iI (sW a (fun t => bI ((fun t : Nat => anyN (excB mkp mfr mto n ((t : Nat) : Int)) nt) t)) aa))), (5, .int (iI (((nx : Nat) : Int)))), (6, .int (iI (((span : Nat) : Int) + 1)))]) rfl ?_
        have e_5 : (sW a (fun t => bI ((fun t : Nat => anyN (excB mkp mfr mto n ((t : Nat) : Int)) nt) t)) aa : Int) = sW a (fun t => bI ((fun t : Nat => anyN (excB mkp mfr mto n ((t : Nat) : Int)) nt) t)) nx := by first | (rw [sW_t (p := (fun t : Nat => anyN (excB mkp mfr mto n ((t : Nat) : Int)) nt)) haa (by omega) hcon (by exact h_39)]) | (rw [sW_f (p := (fun t : Nat => anyN (excB mkp mfr mto n ((t : Nat) : Int)) nt)) haa (by omega) hcon (by exact h_39)])
        have e_6 : (((span : Nat) : Int) + 1 : Int) = ((((span + 1)) : Nat) : Int) := by first | rfl | omega
        refine KK.lve (lv' := [(0, .ref tm), (1, .int (iI (((n : Nat) : Int)))), (2, .int (iI (((a : Nat) : Int)))), (3, .int (iI (((b : Nat) : Int)))), (4, .int (iI (sW a (fun t => bI ((fun t : Nat => anyN (excB mkp mfr mto n ((t : Nat) : Int)) nt) t)) nx))), (5, .int (iI (((nx : Nat) : Int)))), (6, .int (iI (((((span + 1)) : Nat) : Int))))]) (lv_k (lv_k (lv_k (lv_k (lv_c e_5 (lv_k (lv_c e_6 rfl))))))) ?_
        have q_7 : ((span + 1)) + a ≤ nx := by omega
        have q_8 : nx ≤ b := by omega
        have m_9 : b - nx < b - aa := by omega
        exact ih_9 ((span + 1), nx) ⟨q_7, q_8⟩ m_9
      · refine kz_iload (pc := 42) fx 5 dX3_excusedMinutes_42 rfl ?_
        refine kz_iload (pc := 44) fx 0 dX3_excusedMinutes_44 rfl ?_
        refine kz_iload (pc := 46) fx 6 dX3_excusedMinutes_46 rfl ?_
        refine kz_isub (pc := 48) fx dX3_excusedMinutes_48 ?_
        refine kz_iadd (pc := 49) fx dX3_excusedMinutes_49 ?_
        refine kz_istore (pc := 50) (lv' := [(4, .int (iI ((sW a (fun t => bI ((fun t : Nat => anyN (excB mkp mfr mto n ((t : Nat) : Int)) nt) t)) aa) + (((nx : Nat) : Int) - ((aa : Nat) : Int))))), (7, .int (iI (((nx : Nat) : Int)))), (0, .ref tm), (1, .int (iI (((n : Nat) : Int)))), (2, .int (iI (((a : Nat) : Int)))), (3, .int (iI (((b : Nat) : Int)))), (5, .int (iI (((aa : Nat) : Int)))), (6, .int (iI (((span : Nat) : Int))))]) fx dX3_excusedMinutes_50 (by decide) rfl ?_
        refine kz_iload (pc := 52) fx 1 dX3_excusedMinutes_52 rfl ?_
        refine kz_istore (pc := 54) (lv' := [(5, .int (iI (((nx : Nat) : Int)))), (4, .int (iI ((sW a (fun t => bI ((fun t : Nat => anyN (excB mkp mfr mto n ((t : Nat) : Int)) nt) t)) aa) + (((nx : Nat) : Int) - ((aa : Nat) : Int))))), (7, .int (iI (((nx : Nat) : Int)))), (0, .ref tm), (1, .int (iI (((n : Nat) : Int)))), (2, .int (iI (((a : Nat) : Int)))), (3, .int (iI (((b : Nat) : Int)))), (6, .int (iI (((span : Nat) : Int))))]) fx dX3_excusedMinutes_54 (by decide) rfl ?_
        refine kz_iinc (pc := 56) (k := 7) (lv' := [(6, .int (iI (((span : Nat) : Int) + 1))), (5, .int (iI (((nx : Nat) : Int)))), (4, .int (iI ((sW a (fun t => bI ((fun t : Nat => anyN (excB mkp mfr mto n ((t : Nat) : Int)) nt) t)) aa) + (((nx : Nat) : Int) - ((aa : Nat) : Int))))), (7, .int (iI (((nx : Nat) : Int)))), (0, .ref tm), (1, .int (iI (((n : Nat) : Int)))), (2, .int (iI (((a : Nat) : Int)))), (3, .int (iI (((b : Nat) : Int))))]) fx dX3_excusedMinutes_56 rfl (by decide) rfl ?_
        refine kz_goto (pc := 59) (tgt := 9) fx dX3_excusedMinutes_59 (by decide) ?_
        refine KK.sub (ks := [4, 5, 6, 7, 2, 1, 0]) (lv' := [(0, .ref tm), (1, .int (iI (((n : Nat) : Int)))), (2, .int (iI (((a : Nat) : Int)))), (3, .int (iI (((b : Nat) : Int)))), (4, .int (iI ((sW a (fun t => bI ((fun t : Nat => anyN (excB mkp mfr mto n ((t : Nat) : Int)) nt) t)) aa) + (((nx : Nat) : Int) - ((aa : Nat) : Int))))), (5, .int (iI (((nx : Nat) : Int)))), (6, .int (iI (((span : Nat) : Int) + 1)))]) rfl ?_
        have e_10 : ((sW a (fun t => bI ((fun t : Nat => anyN (excB mkp mfr mto n ((t : Nat) : Int)) nt) t)) aa) + (((nx : Nat) : Int) - ((aa : Nat) : Int)) : Int) = sW a (fun t => bI ((fun t : Nat => anyN (excB mkp mfr mto n ((t : Nat) : Int)) nt) t)) nx := by first | (rw [sW_t (p := (fun t : Nat => anyN (excB mkp mfr mto n ((t : Nat) : Int)) nt)) haa (by omega) hcon (by exact h_39)]) | (rw [sW_f (p := (fun t : Nat => anyN (excB mkp mfr mto n ((t : Nat) : Int)) nt)) haa (by omega) hcon (by exact h_39)])
        have e_11 : (((span : Nat) : Int) + 1 : Int) = ((((span + 1)) : Nat) : Int) := by first | rfl | omega
        refine KK.lve (lv' := [(0, .ref tm), (1, .int (iI (((n : Nat) : Int)))), (2, .int (iI (((a : Nat) : Int)))), (3, .int (iI (((b : Nat) : Int)))), (4, .int (iI (sW a (fun t => bI ((fun t : Nat => anyN (excB mkp mfr mto n ((t : Nat) : Int)) nt) t)) nx))), (5, .int (iI (((nx : Nat) : Int)))), (6, .int (iI (((((span + 1)) : Nat) : Int))))]) (lv_k (lv_k (lv_k (lv_k (lv_c e_10 (lv_k (lv_c e_11 rfl))))))) ?_
        have q_12 : ((span + 1)) + a ≤ nx := by omega
        have q_13 : nx ≤ b := by omega
        have m_14 : b - nx < b - aa := by omega
        exact ih_9 ((span + 1), nx) ⟨q_12, q_13⟩ m_14
set_option maxRecDepth 100000 in
set_option maxHeartbeats 4000000 in
/-- Tree.add -/
theorem c_T_add (G : GX) (l : Launch) (hlt : l.stackTraces = false) (t : Nat) (q1 : Nat) (q2 : Nat) (q3 : Nat) (q4 : Nat) (q5 : Nat) (nc : Nat) (par : Nat → Int) (wt : Nat → Int) (rl : Nat → Int) (pw : Nat → Nat) (ww : Nat → Nat) (a : Int) (v : Int) (r : Int) (hnc : nc < 12) (rpw : ∀ j, pw j < 4096) (ha : -1 ≤ a ∧ a < nc) (hr : 0 ≤ r ∧ r < 65536) : HC G l yX5_add wsX5_add 1 21 0 0 [.ref t, .int (iI (a)), .int (iI (v)), .int (iI (r))] [(t, .inr (7, [.int (iI (((nc : Nat) : Int))), .ref q1, .ref q2, .ref q3, .ref q4, .ref q5])), (q1, cI G 12 par), (q2, cI G 12 wt), (q3, cC G 12 rl), (q4, cI G 12 (nz pw)), (q5, cI G 12 (nz ww))] (rt (some (.int (iI (((nc : Nat) : Int))))) [(t, .inr (7, [.int (iI (((nc + 1 : Nat) : Int))), .ref q1, .ref q2, .ref q3, .ref q4, .ref q5])), (q1, cI G 12 (zup par nc a)), (q2, cI G 12 (zup wt nc v)), (q3, cC G 12 (zup rl nc r)), (q4, cI G 12 (nz (zuN pw nc (npw pw nc a)))), (q5, cI G 12 (nz (wwA (npw pw nc a) ww (2 ^ nc) (nc + 1))))]) := by
  have hp2 : 2 ^ nc < 4096 := by have := Nat.pow_lt_pow_right (a := 2) (by decide) hnc; omega
  have hnp := npw_lt (a := a) rpw hnc
  refine kz_start cX5_add 7 (some .int) [(0, .ref t), (1, .int (iI (a))), (2, .int (iI (v))), (3, .int (iI (r)))] hlt (by decide) rfl (Nat.le_of_ble_eq_true rfl) rfl (fun X fx rx => ?_)
  refine kz_aload_n (pc := 0) fx 0 dX5_add_0 rfl ?_
  refine kz_get (pc := 1) (ci := 7) (C := RX5) (T := TX5) (N := 6) (ref := "Statusboard$Tree") (v := .int (iI (((nc : Nat) : Int)))) fx 0 0 rfl rfl (fun u h => List.mem_cons_of_mem _ (pu_X5 u h)) (by decide) (List.mem_cons_of_mem _ (pt_1 38 rfl rfl)) rfl rfl dX5_add_1 ?_
  refine kz_istore (pc := 4) (lv' := [(4, .int (iI (((nc : Nat) : Int)))), (0, .ref t), (1, .int (iI (a))), (2, .int (iI (v))), (3, .int (iI (r)))]) fx dX5_add_4 (by decide) rfl ?_
  refine kz_iconst (pc := 6) fx dX5_add_6 ?_
  refine kz_iload (pc := 7) fx 0 dX5_add_7 rfl ?_
  refine kz_ishl (pc := 9) (v := (iI (((2 ^ nc : Nat) : Int)))) fx dX5_add_9 (zb_shl (by omega)) ?_
  refine kz_istore (pc := 10) (lv' := [(5, .int (iI (((2 ^ nc : Nat) : Int)))), (4, .int (iI (((nc : Nat) : Int)))), (0, .ref t), (1, .int (iI (a))), (2, .int (iI (v))), (3, .int (iI (r)))]) fx dX5_add_10 (by decide) rfl ?_
  refine kz_aload_n (pc := 12) fx 2 dX5_add_12 rfl ?_
  refine kz_get (pc := 13) (ci := 7) (C := RX5) (T := TX5) (N := 6) (ref := "Statusboard$Tree") (v := .ref q1) fx 0 1 rfl rfl (fun u h => List.mem_cons_of_mem _ (pu_X5 u h)) (by decide) (List.mem_cons_of_mem _ (pt_1 41 rfl rfl)) rfl rfl dX5_add_13 ?_
  refine kz_iload (pc := 16) fx 1 dX5_add_16 rfl ?_
  refine kz_iload_n (pc := 18) fx 3 dX5_add_18 rfl ?_
  refine kz_iast (pc := 19) (f := par) (w' := [(t, .inr (7, [.int (iI (((nc : Nat) : Int))), .ref q1, .ref q2, .ref q3, .ref q4, .ref q5])), (q1, cI G 12 (zup par nc a)), (q2, cI G 12 wt), (q3, cC G 12 rl), (q4, cI G 12 (nz pw)), (q5, cI G 12 (nz ww))]) fx 1 nc rfl rfl (by omega) (by decide) dX5_add_19 rfl ?_
  refine kz_aload_n (pc := 20) fx 2 dX5_add_20 rfl ?_
  refine kz_get (pc := 21) (ci := 7) (C := RX5) (T := TX5) (N := 6) (ref := "Statusboard$Tree") (v := .ref q2) fx 0 2 rfl rfl (fun u h => List.mem_cons_of_mem _ (pu_X5 u h)) (by decide) (List.mem_cons_of_mem _ (pt_1 43 rfl rfl)) rfl rfl dX5_add_21 ?_
  refine kz_iload (pc := 24) fx 1 dX5_add_24 rfl ?_
  refine kz_iload_n (pc := 26) fx 4 dX5_add_26 rfl ?_
  refine kz_iast (pc := 27) (f := wt) (w' := [(t, .inr (7, [.int (iI (((nc : Nat) : Int))), .ref q1, .ref q2, .ref q3, .ref q4, .ref q5])), (q1, cI G 12 (zup par nc a)), (q2, cI G 12 (zup wt nc v)), (q3, cC G 12 rl), (q4, cI G 12 (nz pw)), (q5, cI G 12 (nz ww))]) fx 2 nc rfl rfl (by omega) (by decide) dX5_add_27 rfl ?_
  refine kz_aload_n (pc := 28) fx 2 dX5_add_28 rfl ?_
  refine kz_get (pc := 29) (ci := 7) (C := RX5) (T := TX5) (N := 6) (ref := "Statusboard$Tree") (v := .ref q3) fx 0 3 rfl rfl (fun u h => List.mem_cons_of_mem _ (pu_X5 u h)) (by decide) (List.mem_cons_of_mem _ (pt_1 46 rfl rfl)) rfl rfl dX5_add_29 ?_
  refine kz_iload (pc := 32) fx 1 dX5_add_32 rfl ?_
  refine kz_iload_n (pc := 34) fx 5 dX5_add_34 rfl ?_
  refine kz_cast (pc := 35) (f := rl) (w' := [(t, .inr (7, [.int (iI (((nc : Nat) : Int))), .ref q1, .ref q2, .ref q3, .ref q4, .ref q5])), (q1, cI G 12 (zup par nc a)), (q2, cI G 12 (zup wt nc v)), (q3, cC G 12 (zup rl nc r)), (q4, cI G 12 (nz pw)), (q5, cI G 12 (nz ww))]) fx 3 nc rfl rfl (by omega) (by decide) (vp_nar_c hr) dX5_add_35 rfl ?_
  refine kz_aload_n (pc := 36) fx 2 dX5_add_36 rfl ?_
  refine kz_get (pc := 37) (ci := 7) (C := RX5) (T := TX5) (N := 6) (ref := "Statusboard$Tree") (v := .ref q4) fx 0 4 rfl rfl (fun u h => List.mem_cons_of_mem _ (pu_X5 u h)) (by decide) (List.mem_cons_of_mem _ (pt_1 48 rfl rfl)) rfl rfl dX5_add_37 ?_
  refine kz_iload (pc := 40) fx 1 dX5_add_40 rfl ?_
  refine kz_iload_n (pc := 42) fx 3 dX5_add_42 rfl ?_
  refine kz_iconst (pc := 43) fx dX5_add_43 ?_
  refine kz_icmp_ne (pc := 44) fx 52 dX5_add_44 (by decide) ⟨by omega, by omega⟩ ⟨by decide, by decide⟩ (fun h_44 => ?_) (fun h_44 => ?_)
  · refine kz_aload_n (pc := 52) fx 2 dX5_add_52 rfl ?_
    refine kz_get (pc := 53) (ci := 7) (C := RX5) (T := TX5) (N := 6) (ref := "Statusboard$Tree") (v := .ref q4) fx 0 4 rfl rfl (fun u h => List.mem_cons_of_mem _ (pu_X5 u h)) (by decide) (List.mem_cons_of_mem _ (pt_1 48 rfl rfl)) rfl rfl dX5_add_53 ?_
    refine kz_iload_n (pc := 56) fx 3 dX5_add_56 rfl ?_
    refine kz_iald (pc := 57) (f := nz pw) fx 4 ((a).toNat) rfl (by omega) (by omega) (by decide) dX5_add_57 ?_
    refine kz_iload (pc := 58) fx 0 dX5_add_58 rfl ?_
    refine kz_ior (pc := 60) (v := (iI (((pw ((a).toNat) ||| 2 ^ nc : Nat) : Int)))) fx dX5_add_60 (zb_or _ _) ?_
    refine KK.st0 (v := ((pw ((a).toNat) ||| 2 ^ nc : Nat) : Int)) (v' := ((npw pw nc a : Nat) : Int)) (by first | (rw [npw_r (by assumption)]) | (rw [npw_o (by assumption)])) ?_
    refine kz_iast (pc := 61) (f := nz pw) (w' := [(t, .inr (7, [.int (iI (((nc : Nat) : Int))), .ref q1, .ref q2, .ref q3, .ref q4, .ref q5])), (q1, cI G 12 (zup par nc a)), (q2, cI G 12 (zup wt nc v)), (q3, cC G 12 (zup rl nc r)), (q4, cI G 12 (nz (zuN pw nc (npw pw nc a)))), (q5, cI G 12 (nz ww))]) fx 4 nc rfl rfl (by omega) (by decide) dX5_add_61 (by rw [← zu_nz pw nc (npw pw nc a)]; rfl) ?_
    refine kz_iconst (pc := 62) fx dX5_add_62 ?_
    refine kz_istore (pc := 63) (lv' := [(6, .int (iI (0))), (5, .int (iI (((2 ^ nc : Nat) : Int)))), (4, .int (iI (((nc : Nat) : Int)))), (0, .ref t), (1, .int (iI (a))), (2, .int (iI (v))), (3, .int (iI (r)))]) fx dX5_add_63 (by decide) rfl ?_
    refine KK.sub (ks := [3, 4, 5, 6, 2, 1, 0]) (lv' := [(0, .ref t), (1, .int (iI (a))), (2, .int (iI (v))), (3, .int (iI (r))), (4, .int (iI (((nc : Nat) : Int)))), (5, .int (iI (((2 ^ nc : Nat) : Int)))), (6, .int (iI (0)))]) rfl ?_
    have e_1 : nz (wwA (npw pw nc a) ww (2 ^ nc) 0) = nz ww := by first | rfl | exact (by rw [wwA_0])
    refine KK.we (w' := [(t, .inr (7, [.int (iI (((nc : Nat) : Int))), .ref q1, .ref q2, .ref q3, .ref q4, .ref q5])), (q1, cI G 12 (zup par nc a)), (q2, cI G 12 (zup wt nc v)), (q3, cC G 12 (zup rl nc r)), (q4, cI G 12 (nz (zuN pw nc (npw pw nc a)))), (q5, cI G 12 (nz (wwA (npw pw nc a) ww (2 ^ nc) 0)))]) (by rw [e_1]) ?_
    have e_2 : (0 : Int) = ((0 : Nat) : Int) := by first | rfl | omega
    refine KK.lve (lv' := [(0, .ref t), (1, .int (iI (a))), (2, .int (iI (v))), (3, .int (iI (r))), (4, .int (iI (((nc : Nat) : Int)))), (5, .int (iI (((2 ^ nc : Nat) : Int)))), (6, .int (iI (((0 : Nat) : Int))))]) (lv_k (lv_k (lv_k (lv_k (lv_k (lv_k (lv_c e_2 rfl))))))) ?_
    have i_3 : 0 ≤ nc + 1 := Nat.zero_le _
    refine kz_loop (σ := Nat) (fun z => nc + 1 - z) (fun z => (z ≤ nc + 1)) (fun z => KK X G [(0, .ref t), (1, .int (iI (a))), (2, .int (iI (v))), (3, .int (iI (r))), (4, .int (iI (((nc : Nat) : Int)))), (5, .int (iI (((2 ^ nc : Nat) : Int)))), (6, .int (iI (((z : Nat) : Int))))] [(t, .inr (7, [.int (iI (((nc : Nat) : Int))), .ref q1, .ref q2, .ref q3, .ref q4, .ref q5])), (q1, cI G 12 (zup par nc a)), (q2, cI G 12 (zup wt nc v)), (q3, cC G 12 (zup rl nc r)), (q4, cI G 12 (nz (zuN pw nc (npw pw nc a)))), (q5, cI G 12 (nz (wwA (npw pw nc a) ww (2 ^ nc) z)))] 0 0 65 []) ?_ 0 i_3
    rintro k hk ih_65
    have hk : k ≤ nc + 1 := hk
    show KK X G [(0, .ref t), (1, .int (iI (a))), (2, .int (iI (v))), (3, .int (iI (r))), (4, .int (iI (((nc : Nat) : Int)))), (5, .int (iI (((2 ^ nc : Nat) : Int)))), (6, .int (iI (((k : Nat) : Int))))] [(t, .inr (7, [.int (iI (((nc : Nat) : Int))), .ref q1, .ref q2, .ref q3, .ref q4, .ref q5])), (q1, cI G 12 (zup par nc a)), (q2, cI G 12 (zup wt nc v)), (q3, cC G 12 (zup rl nc r)), (q4, cI G 12 (nz (zuN pw nc (npw pw nc a)))), (q5, cI G 12 (nz (wwA (npw pw nc a) ww (2 ^ nc) k)))] 0 0 65 []
    refine kz_iload (pc := 65) fx 6 dX5_add_65 rfl ?_
    refine kz_iload (pc := 67) fx 4 dX5_add_67 rfl ?_
    refine kz_icmp_gt (pc := 69) fx 105 dX5_add_69 (by decide) ⟨by omega, by omega⟩ ⟨by omega, by omega⟩ (fun h_69 => ?_) (fun h_69 => ?_)
    · refine kz_aload_n (pc := 105) fx 0 dX5_add_105 rfl ?_
      refine kz_dup (pc := 106) fx dX5_add_106 rfl ?_
      refine kz_get (pc := 107) (ci := 7) (C := RX5) (T := TX5) (N := 6) (ref := "Statusboard$Tree") (v := .int (iI (((nc : Nat) : Int)))) fx 0 0 rfl rfl (fun u h => List.mem_cons_of_mem _ (pu_X5 u h)) (by decide) (List.mem_cons_of_mem _ (pt_1 38 rfl rfl)) rfl rfl dX5_add_107 ?_
      refine kz_iconst (pc := 110) fx dX5_add_110 ?_
      refine kz_iadd (pc := 111) fx dX5_add_111 ?_
      refine kz_put (pc := 112) (ci := 7) (C := RX5) (T := TX5) (N := 6) (ref := "Statusboard$Tree") (v := .int (iI (((nc : Nat) : Int) + 1))) (w' := [(t, .inr (7, [.int (iI (((nc : Nat) : Int) + 1)), .ref q1, .ref q2, .ref q3, .ref q4, .ref q5])), (q1, cI G 12 (zup par nc a)), (q2, cI G 12 (zup wt nc v)), (q3, cC G 12 (zup rl nc r)), (q4, cI G 12 (nz (zuN pw nc (npw pw nc a)))), (q5, cI G 12 (nz (wwA (npw pw nc a) ww (2 ^ nc) k)))]) fx tyX5 0 0 rfl rfl (fun u h => List.mem_cons_of_mem _ (pu_X5 u h)) tyX5_ok nmX5 (by decide) (List.mem_cons_of_mem _ (pt_1 38 rfl rfl)) rfl rfl rfl rfl (Nat.le_of_ble_eq_true rfl) dX5_add_112 rfl ?_
      refine kz_iload (pc := 115) fx 4 dX5_add_115 rfl ?_
      refine kz_iret (pc := 117) fx rx dX5_add_117 (by decide) (by decide) ?_
      exact rt_i (by rfl) (by rw [show k = nc + 1 by omega]; rfl)
    · refine kz_aload_n (pc := 72) fx 0 dX5_add_72 rfl ?_
      refine kz_get (pc := 73) (ci := 7) (C := RX5) (T := TX5) (N := 6) (ref := "Statusboard$Tree") (v := .ref q4) fx 0 4 rfl rfl (fun u h => List.mem_cons_of_mem _ (pu_X5 u h)) (by decide) (List.mem_cons_of_mem _ (pt_1 48 rfl rfl)) rfl rfl dX5_add_73 ?_
      refine kz_iload (pc := 76) fx 4 dX5_add_76 rfl ?_
      refine kz_iald (pc := 78) (f := nz (zuN pw nc (npw pw nc a))) fx 4 nc rfl rfl (by omega) (by decide) dX5_add_78 ?_
      refine KK.st0 (v := (((zuN pw nc (npw pw nc a)) nc : Nat) : Int)) (v' := ((npw pw nc a : Nat) : Int)) (by rw [zuN_s]) ?_
      refine kz_iload (pc := 79) fx 6 dX5_add_79 rfl ?_
      refine kz_callS (pc := 81) (As := [.int (iI (((npw pw nc a : Nat) : Int))), .int (iI (((k : Nat) : Int)))]) (st := []) (wc := []) fx (c_holds G l hlt (npw pw nc a) k (by first | assumption | omega) (by first | assumption | omega)) rt_ne (gu_S (pt_2 145 rfl rfl) (pt_2 146 rfl rfl) (pt_1 2 rfl rfl) (pt_2 147 rfl rfl)) rfl ⟨by decide, by decide, rfl⟩ (by decide) [] (by decide) rfl rfl (Nat.le_of_ble_eq_true rfl) dX5_add_81 (by decide) (by decide) (kc_rt (r := some (.int (iI (bI ((npw pw nc a).testBit k))))) (w1 := []) (w' := [(t, .inr (7, [.int (iI (((nc : Nat) : Int))), .ref q1, .ref q2, .ref q3, .ref q4, .ref q5])), (q1, cI G 12 (zup par nc a)), (q2, cI G 12 (zup wt nc v)), (q3, cC G 12 (zup rl nc r)), (q4, cI G 12 (nz (zuN pw nc (npw pw nc a)))), (q5, cI G 12 (nz (wwA (npw pw nc a) ww (2 ^ nc) k)))]) (is9 := [0, 1, 2, 3, 4, 5]) (stk' := [.int (iI (bI ((npw pw nc a).testBit k)))]) rfl (by decide) rfl ?_)
      refine kz_ifb_eq (pc := 84) fx 99 dX5_add_84 (by decide) (fun h_84 => ?_) (fun h_84 => ?_)
      · refine kz_iinc (pc := 99) (k := 6) (lv' := [(6, .int (iI (((k : Nat) : Int) + 1))), (0, .ref t), (1, .int (iI (a))), (2, .int (iI (v))), (3, .int (iI (r))), (4, .int (iI (((nc : Nat) : Int)))), (5, .int (iI (((2 ^ nc : Nat) : Int))))]) fx dX5_add_99 rfl (by decide) rfl ?_
        refine kz_goto (pc := 102) (tgt := 65) fx dX5_add_102 (by decide) ?_
        refine KK.sub (ks := [1, 2, 3, 4, 5, 6, 0]) (lv' := [(0, .ref t), (1, .int (iI (a))), (2, .int (iI (v))), (3, .int (iI (r))), (4, .int (iI (((nc : Nat) : Int)))), (5, .int (iI (((2 ^ nc : Nat) : Int)))), (6, .int (iI (((k : Nat) : Int) + 1)))]) rfl ?_
        have e_4 : (((k : Nat) : Int) + 1 : Int) = ((((k + 1)) : Nat) : Int) := by first | rfl | omega
        refine KK.lve (lv' := [(0, .ref t), (1, .int (iI (a))), (2, .int (iI (v))), (3, .int (iI (r))), (4, .int (iI (((nc : Nat) : Int)))), (5, .int (iI (((2 ^ nc : Nat) : Int)))), (6, .int (iI (((((k + 1)) : Nat) : Int))))]) (lv_k (lv_k (lv_k (lv_k (lv_k (lv_k (lv_c e_4 rfl))))))) ?_
        have e_5 : nz (wwA (npw pw nc a) ww (2 ^ nc) k) = nz (wwA (npw pw nc a) ww (2 ^ nc) ((k + 1))) := by first | rw [wwA_t (by assumption)] | rw [← wwA_f (by assumption)]
        refine KK.we (w' := [(t, .inr (7, [.int (iI (((nc : Nat) : Int))), .ref q1, .ref q2, .ref q3, .ref q4, .ref q5])), (q1, cI G 12 (zup par nc a)), (q2, cI G 12 (zup wt nc v)), (q3, cC G 12 (zup rl nc r)), (q4, cI G 12 (nz (zuN pw nc (npw pw nc a)))), (q5, cI G 12 (nz (wwA (npw pw nc a) ww (2 ^ nc) ((k + 1)))))]) (by rw [e_5]) ?_
        have q_6 : ((k + 1)) ≤ nc + 1 := by omega
        have m_7 : nc + 1 - ((k + 1)) < nc + 1 - k := by omega
        exact ih_65 (k + 1) q_6 m_7
      · refine kz_aload_n (pc := 87) fx 0 dX5_add_87 rfl ?_
        refine kz_get (pc := 88) (ci := 7) (C := RX5) (T := TX5) (N := 6) (ref := "Statusboard$Tree") (v := .ref q5) fx 0 5 rfl rfl (fun u h => List.mem_cons_of_mem _ (pu_X5 u h)) (by decide) (List.mem_cons_of_mem _ (pt_1 50 rfl rfl)) rfl rfl dX5_add_88 ?_
        refine kz_iload (pc := 91) fx 6 dX5_add_91 rfl ?_
        refine kz_dup2 (pc := 93) fx dX5_add_93 rfl rfl ?_
        refine kz_iald (pc := 94) (f := nz (wwA (npw pw nc a) ww (2 ^ nc) k)) fx 5 k rfl rfl (by omega) (by decide) dX5_add_94 ?_
        refine kz_iload (pc := 95) fx 5 dX5_add_95 rfl ?_
        refine kz_ior (pc := 97) (v := (iI ((((wwA (npw pw nc a) ww (2 ^ nc) k) k ||| 2 ^ nc : Nat) : Int)))) fx dX5_add_97 (zb_or _ _) ?_
        refine kz_iast (pc := 98) (f := nz (wwA (npw pw nc a) ww (2 ^ nc) k)) (w' := [(t, .inr (7, [.int (iI (((nc : Nat) : Int))), .ref q1, .ref q2, .ref q3, .ref q4, .ref q5])), (q1, cI G 12 (zup par nc a)), (q2, cI G 12 (zup wt nc v)), (q3, cC G 12 (zup rl nc r)), (q4, cI G 12 (nz (zuN pw nc (npw pw nc a)))), (q5, cI G 12 (nz (zuN (wwA (npw pw nc a) ww (2 ^ nc) k) k ((wwA (npw pw nc a) ww (2 ^ nc) k) k ||| 2 ^ nc))))]) fx 5 k rfl rfl (by omega) (by decide) dX5_add_98 (by rw [← zu_nz (wwA (npw pw nc a) ww (2 ^ nc) k) k ((wwA (npw pw nc a) ww (2 ^ nc) k) k ||| 2 ^ nc)]; rfl) ?_
        refine kz_iinc (pc := 99) (k := 6) (lv' := [(6, .int (iI (((k : Nat) : Int) + 1))), (0, .ref t), (1, .int (iI (a))), (2, .int (iI (v))), (3, .int (iI (r))), (4, .int (iI (((nc : Nat) : Int)))), (5, .int (iI (((2 ^ nc : Nat) : Int))))]) fx dX5_add_99 rfl (by decide) rfl ?_
        refine kz_goto (pc := 102) (tgt := 65) fx dX5_add_102 (by decide) ?_
        refine KK.sub (ks := [1, 2, 3, 4, 5, 6, 0]) (lv' := [(0, .ref t), (1, .int (iI (a))), (2, .int (iI (v))), (3, .int (iI (r))), (4, .int (iI (((nc : Nat) : Int)))), (5, .int (iI (((2 ^ nc : Nat) : Int)))), (6, .int (iI (((k : Nat) : Int) + 1)))]) rfl ?_
        have e_8 : (((k : Nat) : Int) + 1 : Int) = ((((k + 1)) : Nat) : Int) := by first | rfl | omega
        refine KK.lve (lv' := [(0, .ref t), (1, .int (iI (a))), (2, .int (iI (v))), (3, .int (iI (r))), (4, .int (iI (((nc : Nat) : Int)))), (5, .int (iI (((2 ^ nc : Nat) : Int)))), (6, .int (iI (((((k + 1)) : Nat) : Int))))]) (lv_k (lv_k (lv_k (lv_k (lv_k (lv_k (lv_c e_8 rfl))))))) ?_
        have e_9 : nz (zuN (wwA (npw pw nc a) ww (2 ^ nc) k) k ((wwA (npw pw nc a) ww (2 ^ nc) k) k ||| 2 ^ nc)) = nz (wwA (npw pw nc a) ww (2 ^ nc) ((k + 1))) := by first | rw [wwA_t (by assumption)] | rw [← wwA_f (by assumption)]
        refine KK.we (w' := [(t, .inr (7, [.int (iI (((nc : Nat) : Int))), .ref q1, .ref q2, .ref q3, .ref q4, .ref q5])), (q1, cI G 12 (zup par nc a)), (q2, cI G 12 (zup wt nc v)), (q3, cC G 12 (zup rl nc r)), (q4, cI G 12 (nz (zuN pw nc (npw pw nc a)))), (q5, cI G 12 (nz (wwA (npw pw nc a) ww (2 ^ nc) ((k + 1)))))]) (by rw [e_9]) ?_
        have q_10 : ((k + 1)) ≤ nc + 1 := by omega
        have m_11 : nc + 1 - ((k + 1)) < nc + 1 - k := by omega
        exact ih_65 (k + 1) q_10 m_11
  · refine kz_iload (pc := 47) fx 0 dX5_add_47 rfl ?_
    refine kz_goto (pc := 49) (tgt := 61) fx dX5_add_49 (by decide) ?_
    refine KK.st0 (v := ((2 ^ nc : Nat) : Int)) (v' := ((npw pw nc a : Nat) : Int)) (by first | (rw [npw_r (by assumption)]) | (rw [npw_o (by assumption)])) ?_
    refine kz_iast (pc := 61) (f := nz pw) (w' := [(t, .inr (7, [.int (iI (((nc : Nat) : Int))), .ref q1, .ref q2, .ref q3, .ref q4, .ref q5])), (q1, cI G 12 (zup par nc a)), (q2, cI G 12 (zup wt nc v)), (q3, cC G 12 (zup rl nc r)), (q4, cI G 12 (nz (zuN pw nc (npw pw nc a)))), (q5, cI G 12 (nz ww))]) fx 4 nc rfl rfl (by omega) (by decide) dX5_add_61 (by rw [← zu_nz pw nc (npw pw nc a)]; rfl) ?_
    refine kz_iconst (pc := 62) fx dX5_add_62 ?_
    refine kz_istore (pc := 63) (lv' := [(6, .int (iI (0))), (5, .int (iI (((2 ^ nc : Nat) : Int)))), (4, .int (iI (((nc : Nat) : Int)))), (0, .ref t), (1, .int (iI (a))), (2, .int (iI (v))), (3, .int (iI (r)))]) fx dX5_add_63 (by decide) rfl ?_
    refine KK.sub (ks := [3, 4, 5, 6, 2, 1, 0]) (lv' := [(0, .ref t), (1, .int (iI (a))), (2, .int (iI (v))), (3, .int (iI (r))), (4, .int (iI (((nc : Nat) : Int)))), (5, .int (iI (((2 ^ nc : Nat) : Int)))), (6, .int (iI (0)))]) rfl ?_
    have e_12 : nz (wwA (npw pw nc a) ww (2 ^ nc) 0) = nz ww := by first | rfl | exact (by rw [wwA_0])
    refine KK.we (w' := [(t, .inr (7, [.int (iI (((nc : Nat) : Int))), .ref q1, .ref q2, .ref q3, .ref q4, .ref q5])), (q1, cI G 12 (zup par nc a)), (q2, cI G 12 (zup wt nc v)), (q3, cC G 12 (zup rl nc r)), (q4, cI G 12 (nz (zuN pw nc (npw pw nc a)))), (q5, cI G 12 (nz (wwA (npw pw nc a) ww (2 ^ nc) 0)))]) (by rw [e_12]) ?_
    have e_13 : (0 : Int) = ((0 : Nat) : Int) := by first | rfl | omega
    refine KK.lve (lv' := [(0, .ref t), (1, .int (iI (a))), (2, .int (iI (v))), (3, .int (iI (r))), (4, .int (iI (((nc : Nat) : Int)))), (5, .int (iI (((2 ^ nc : Nat) : Int)))), (6, .int (iI (((0 : Nat) : Int))))]) (lv_k (lv_k (lv_k (lv_k (lv_k (lv_k (lv_c e_13 rfl))))))) ?_
    have i_14 : 0 ≤ nc + 1 := Nat.zero_le _
    refine kz_loop (σ := Nat) (fun z => nc + 1 - z) (fun z => (z ≤ nc + 1)) (fun z => KK X G [(0, .ref t), (1, .int (iI (a))), (2, .int (iI (v))), (3, .int (iI (r))), (4, .int (iI (((nc : Nat) : Int)))), (5, .int (iI (((2 ^ nc : Nat) : Int)))), (6, .int (iI (((z : Nat) : Int))))] [(t, .inr (7, [.int (iI (((nc : Nat) : Int))), .ref q1, .ref q2, .ref q3, .ref q4, .ref q5])), (q1, cI G 12 (zup par nc a)), (q2, cI G 12 (zup wt nc v)), (q3, cC G 12 (zup rl nc r)), (q4, cI G 12 (nz (zuN pw nc (npw pw nc a)))), (q5, cI G 12 (nz (wwA (npw pw nc a) ww (2 ^ nc) z)))] 0 0 65 []) ?_ 0 i_14
    rintro k hk ih_65
    have hk : k ≤ nc + 1 := hk
    show KK X G [(0, .ref t), (1, .int (iI (a))), (2, .int (iI (v))), (3, .int (iI (r))), (4, .int (iI (((nc : Nat) : Int)))), (5, .int (iI (((2 ^ nc : Nat) : Int)))), (6, .int (iI (((k : Nat) : Int))))] [(t, .inr (7, [.int (iI (((nc : Nat) : Int))), .ref q1, .ref q2, .ref q3, .ref q4, .ref q5])), (q1, cI G 12 (zup par nc a)), (q2, cI G 12 (zup wt nc v)), (q3, cC G 12 (zup rl nc r)), (q4, cI G 12 (nz (zuN pw nc (npw pw nc a)))), (q5, cI G 12 (nz (wwA (npw pw nc a) ww (2 ^ nc) k)))] 0 0 65 []
    refine kz_iload (pc := 65) fx 6 dX5_add_65 rfl ?_
    refine kz_iload (pc := 67) fx 4 dX5_add_67 rfl ?_
    refine kz_icmp_gt (pc := 69) fx 105 dX5_add_69 (by decide) ⟨by omega, by omega⟩ ⟨by omega, by omega⟩ (fun h_69 => ?_) (fun h_69 => ?_)
    · refine kz_aload_n (pc := 105) fx 0 dX5_add_105 rfl ?_
      refine kz_dup (pc := 106) fx dX5_add_106 rfl ?_
      refine kz_get (pc := 107) (ci := 7) (C := RX5) (T := TX5) (N := 6) (ref := "Statusboard$Tree") (v := .int (iI (((nc : Nat) : Int)))) fx 0 0 rfl rfl (fun u h => List.mem_cons_of_mem _ (pu_X5 u h)) (by decide) (List.mem_cons_of_mem _ (pt_1 38 rfl rfl)) rfl rfl dX5_add_107 ?_
      refine kz_iconst (pc := 110) fx dX5_add_110 ?_
      refine kz_iadd (pc := 111) fx dX5_add_111 ?_
      refine kz_put (pc := 112) (ci := 7) (C := RX5) (T := TX5) (N := 6) (ref := "Statusboard$Tree") (v := .int (iI (((nc : Nat) : Int) + 1))) (w' := [(t, .inr (7, [.int (iI (((nc : Nat) : Int) + 1)), .ref q1, .ref q2, .ref q3, .ref q4, .ref q5])), (q1, cI G 12 (zup par nc a)), (q2, cI G 12 (zup wt nc v)), (q3, cC G 12 (zup rl nc r)), (q4, cI G 12 (nz (zuN pw nc (npw pw nc a)))), (q5, cI G 12 (nz (wwA (npw pw nc a) ww (2 ^ nc) k)))]) fx tyX5 0 0 rfl rfl (fun u h => List.mem_cons_of_mem _ (pu_X5 u h)) tyX5_ok nmX5 (by decide) (List.mem_cons_of_mem _ (pt_1 38 rfl rfl)) rfl rfl rfl rfl (Nat.le_of_ble_eq_true rfl) dX5_add_112 rfl ?_
      refine kz_iload (pc := 115) fx 4 dX5_add_115 rfl ?_
      refine kz_iret (pc := 117) fx rx dX5_add_117 (by decide) (by decide) ?_
      exact rt_i (by rfl) (by rw [show k = nc + 1 by omega]; rfl)
    · refine kz_aload_n (pc := 72) fx 0 dX5_add_72 rfl ?_
      refine kz_get (pc := 73) (ci := 7) (C := RX5) (T := TX5) (N := 6) (ref := "Statusboard$Tree") (v := .ref q4) fx 0 4 rfl rfl (fun u h => List.mem_cons_of_mem _ (pu_X5 u h)) (by decide) (List.mem_cons_of_mem _ (pt_1 48 rfl rfl)) rfl rfl dX5_add_73 ?_
      refine kz_iload (pc := 76) fx 4 dX5_add_76 rfl ?_
      refine kz_iald (pc := 78) (f := nz (zuN pw nc (npw pw nc a))) fx 4 nc rfl rfl (by omega) (by decide) dX5_add_78 ?_
      refine KK.st0 (v := (((zuN pw nc (npw pw nc a)) nc : Nat) : Int)) (v' := ((npw pw nc a : Nat) : Int)) (by rw [zuN_s]) ?_
      refine kz_iload (pc := 79) fx 6 dX5_add_79 rfl ?_
      refine kz_callS (pc := 81) (As := [.int (iI (((npw pw nc a : Nat) : Int))), .int (iI (((k : Nat) : Int)))]) (st := []) (wc := []) fx (c_holds G l hlt (npw pw nc a) k (by first | assumption | omega) (by first | assumption | omega)) rt_ne (gu_S (pt_2 145 rfl rfl) (pt_2 146 rfl rfl) (pt_1 2 rfl rfl) (pt_2 147 rfl rfl)) rfl ⟨by decide, by decide, rfl⟩ (by decide) [] (by decide) rfl rfl (Nat.le_of_ble_eq_true rfl) dX5_add_81 (by decide) (by decide) (kc_rt (r := some (.int (iI (bI ((npw pw nc a).testBit k))))) (w1 := []) (w' := [(t, .inr (7, [.int (iI (((nc : Nat) : Int))), .ref q1, .ref q2, .ref q3, .ref q4, .ref q5])), (q1, cI G 12 (zup par nc a)), (q2, cI G 12 (zup wt nc v)), (q3, cC G 12 (zup rl nc r)), (q4, cI G 12 (nz (zuN pw nc (npw pw nc a)))), (q5, cI G 12 (nz (wwA (npw pw nc a) ww (2 ^ nc) k)))]) (is9 := [0, 1, 2, 3, 4, 5]) (stk' := [.int (iI (bI ((npw pw nc a).testBit k)))]) rfl (by decide) rfl ?_)
      refine kz_ifb_eq (pc := 84) fx 99 dX5_add_84 (by decide) (fun h_84 => ?_) (fun h_84 => ?_)
      · refine kz_iinc (pc := 99) (k := 6) (lv' := [(6, .int (iI (((k : Nat) : Int) + 1))), (0, .ref t), (1, .int (iI (a))), (2, .int (iI (v))), (3, .int (iI (r))), (4, .int (iI (((nc : Nat) : Int)))), (5, .int (iI (((2 ^ nc : Nat) : Int))))]) fx dX5_add_99 rfl (by decide) rfl ?_
        refine kz_goto (pc := 102) (tgt := 65) fx dX5_add_102 (by decide) ?_
        refine KK.sub (ks := [1, 2, 3, 4, 5, 6, 0]) (lv' := [(0, .ref t), (1, .int (iI (a))), (2, .int (iI (v))), (3, .int (iI (r))), (4, .int (iI (((nc : Nat) : Int)))), (5, .int (iI (((2 ^ nc : Nat) : Int)))), (6, .int (iI (((k : Nat) : Int) + 1)))]) rfl ?_
        have e_15 : (((k : Nat) : Int) + 1 : Int) = ((((k + 1)) : Nat) : Int) := by first | rfl | omega
        refine KK.lve (lv' := [(0, .ref t), (1, .int (iI (a))), (2, .int (iI (v))), (3, .int (iI (r))), (4, .int (iI (((nc : Nat) : Int)))), (5, .int (iI (((2 ^ nc : Nat) : Int)))), (6, .int (iI (((((k + 1)) : Nat) : Int))))]) (lv_k (lv_k (lv_k (lv_k (lv_k (lv_k (lv_c e_15 rfl))))))) ?_
        have e_16 : nz (wwA (npw pw nc a) ww (2 ^ nc) k) = nz (wwA (npw pw nc a) ww (2 ^ nc) ((k + 1))) := by first | rw [wwA_t (by assumption)] | rw [← wwA_f (by assumption)]
        refine KK.we (w' := [(t, .inr (7, [.int (iI (((nc : Nat) : Int))), .ref q1, .ref q2, .ref q3, .ref q4, .ref q5])), (q1, cI G 12 (zup par nc a)), (q2, cI G 12 (zup wt nc v)), (q3, cC G 12 (zup rl nc r)), (q4, cI G 12 (nz (zuN pw nc (npw pw nc a)))), (q5, cI G 12 (nz (wwA (npw pw nc a) ww (2 ^ nc) ((k + 1)))))]) (by rw [e_16]) ?_
        have q_17 : ((k + 1)) ≤ nc + 1 := by omega
        have m_18 : nc + 1 - ((k + 1)) < nc + 1 - k := by omega
        exact ih_65 (k + 1) q_17 m_18
      · refine kz_aload_n (pc := 87) fx 0 dX5_add_87 rfl ?_
        refine kz_get (pc := 88) (ci := 7) (C := RX5) (T := TX5) (N := 6) (ref := "Statusboard$Tree") (v := .ref q5) fx 0 5 rfl rfl (fun u h => List.mem_cons_of_mem _ (pu_X5 u h)) (by decide) (List.mem_cons_of_mem _ (pt_1 50 rfl rfl)) rfl rfl dX5_add_88 ?_
        refine kz_iload (pc := 91) fx 6 dX5_add_91 rfl ?_
        refine kz_dup2 (pc := 93) fx dX5_add_93 rfl rfl ?_
        refine kz_iald (pc := 94) (f := nz (wwA (npw pw nc a) ww (2 ^ nc) k)) fx 5 k rfl rfl (by omega) (by decide) dX5_add_94 ?_
        refine kz_iload (pc := 95) fx 5 dX5_add_95 rfl ?_
        refine kz_ior (pc := 97) (v := (iI ((((wwA (npw pw nc a) ww (2 ^ nc) k) k ||| 2 ^ nc : Nat) : Int)))) fx dX5_add_97 (zb_or _ _) ?_
        refine kz_iast (pc := 98) (f := nz (wwA (npw pw nc a) ww (2 ^ nc) k)) (w' := [(t, .inr (7, [.int (iI (((nc : Nat) : Int))), .ref q1, .ref q2, .ref q3, .ref q4, .ref q5])), (q1, cI G 12 (zup par nc a)), (q2, cI G 12 (zup wt nc v)), (q3, cC G 12 (zup rl nc r)), (q4, cI G 12 (nz (zuN pw nc (npw pw nc a)))), (q5, cI G 12 (nz (zuN (wwA (npw pw nc a) ww (2 ^ nc) k) k ((wwA (npw pw nc a) ww (2 ^ nc) k) k ||| 2 ^ nc))))]) fx 5 k rfl rfl (by omega) (by decide) dX5_add_98 (by rw [← zu_nz (wwA (npw pw nc a) ww (2 ^ nc) k) k ((wwA (npw pw nc a) ww (2 ^ nc) k) k ||| 2 ^ nc)]; rfl) ?_
        refine kz_iinc (pc := 99) (k := 6) (lv' := [(6, .int (iI (((k : Nat) : Int) + 1))), (0, .ref t), (1, .int (iI (a))), (2, .int (iI (v))), (3, .int (iI (r))), (4, .int (iI (((nc : Nat) : Int)))), (5, .int (iI (((2 ^ nc : Nat) : Int))))]) fx dX5_add_99 rfl (by decide) rfl ?_
        refine kz_goto (pc := 102) (tgt := 65) fx dX5_add_102 (by decide) ?_
        refine KK.sub (ks := [1, 2, 3, 4, 5, 6, 0]) (lv' := [(0, .ref t), (1, .int (iI (a))), (2, .int (iI (v))), (3, .int (iI (r))), (4, .int (iI (((nc : Nat) : Int)))), (5, .int (iI (((2 ^ nc : Nat) : Int)))), (6, .int (iI (((k : Nat) : Int) + 1)))]) rfl ?_
        have e_19 : (((k : Nat) : Int) + 1 : Int) = ((((k + 1)) : Nat) : Int) := by first | rfl | omega
        refine KK.lve (lv' := [(0, .ref t), (1, .int (iI (a))), (2, .int (iI (v))), (3, .int (iI (r))), (4, .int (iI (((nc : Nat) : Int)))), (5, .int (iI (((2 ^ nc : Nat) : Int)))), (6, .int (iI (((((k + 1)) : Nat) : Int))))]) (lv_k (lv_k (lv_k (lv_k (lv_k (lv_k (lv_c e_19 rfl))))))) ?_
        have e_20 : nz (zuN (wwA (npw pw nc a) ww (2 ^ nc) k) k ((wwA (npw pw nc a) ww (2 ^ nc) k) k ||| 2 ^ nc)) = nz (wwA (npw pw nc a) ww (2 ^ nc) ((k + 1))) := by first | rw [wwA_t (by assumption)] | rw [← wwA_f (by assumption)]
        refine KK.we (w' := [(t, .inr (7, [.int (iI (((nc : Nat) : Int))), .ref q1, .ref q2, .ref q3, .ref q4, .ref q5])), (q1, cI G 12 (zup par nc a)), (q2, cI G 12 (zup wt nc v)), (q3, cC G 12 (zup rl nc r)), (q4, cI G 12 (nz (zuN pw nc (npw pw nc a)))), (q5, cI G 12 (nz (wwA (npw pw nc a) ww (2 ^ nc) ((k + 1)))))]) (by rw [e_20]) ?_
        have q_21 : ((k + 1)) ≤ nc + 1 := by omega
        have m_22 : nc + 1 - ((k + 1)) < nc + 1 - k := by omega
        exact ih_65 (k + 1) q_21 m_22
set_option maxRecDepth 100000 in
set_option maxHeartbeats 4000000 in
/-- withinAt -/
theorem c_withinAt (G : GX) (l : Launch) (hlt : l.stackTraces = false) (t : Nat) (q1 : Nat) (q2 : Nat) (q3 : Nat) (q4 : Nat) (q5 : Nat) (nc : Nat) (par : Nat → Int) (wt : Nat → Int) (rl : Nat → Int) (pw : Nat → Nat) (ww : Nat → Nat) (c : Nat) (ix : Int) (hnc : nc ≤ 12) (rpar : ∀ j, -1 ≤ par j ∧ par j < 12) (rww : ∀ j, ww j < 4096) (hc : c < nc) (hl : 0 ≤ ix ∧ ix ≤ 12) : HC G l yX5_withinAt wsX5_withinAt 2 41 0 0 [.ref t, .int (iI (((c : Nat) : Int))), .int (iI (ix))] [(t, .inr (7, [.int (iI (((nc : Nat) : Int))), .ref q1, .ref q2, .ref q3, .ref q4, .ref q5])), (q1, cI G 12 par), (q2, cI G 12 wt), (q3, cC G 12 rl), (q4, cI G 12 (nz pw)), (q5, cI G 12 (nz ww))] (rt (some (.int (iI (waF par ww (nc - (c + 1)) (c + 1) c ix)))) [(t, .inr (7, [.int (iI (((nc : Nat) : Int))), .ref q1, .ref q2, .ref q3, .ref q4, .ref q5])), (q1, cI G 12 par), (q2, cI G 12 wt), (q3, cC G 12 rl), (q4, cI G 12 (nz pw)), (q5, cI G 12 (nz ww))]) := by
  refine kz_start cX5_withinAt 7 (some .int) [(0, .ref t), (1, .int (iI (((c : Nat) : Int)))), (2, .int (iI (ix)))] hlt (by decide) rfl (Nat.le_of_ble_eq_true rfl) rfl (fun X fx rx => ?_)
  refine kz_iload_n (pc := 0) fx 1 dX5_withinAt_0 rfl ?_
  refine kz_istore_n (pc := 1) (lv' := [(3, .int (iI (((c : Nat) : Int)))), (0, .ref t), (1, .int (iI (((c : Nat) : Int)))), (2, .int (iI (ix)))]) fx dX5_withinAt_1 rfl (by decide) rfl ?_
  refine kz_iload_n (pc := 2) fx 3 dX5_withinAt_2 rfl ?_
  refine kz_istore (pc := 3) (lv' := [(4, .int (iI (ix))), (3, .int (iI (((c : Nat) : Int)))), (0, .ref t), (1, .int (iI (((c : Nat) : Int)))), (2, .int (iI (ix)))]) fx dX5_withinAt_3 (by decide) rfl ?_
  refine kz_iload_n (pc := 5) fx 3 dX5_withinAt_5 rfl ?_
  refine kz_iconst (pc := 6) fx dX5_withinAt_6 ?_
  refine kz_iadd (pc := 7) fx dX5_withinAt_7 ?_
  refine kz_istore (pc := 8) (lv' := [(5, .int (iI (((c : Nat) : Int) + 1))), (4, .int (iI (ix))), (3, .int (iI (((c : Nat) : Int)))), (0, .ref t), (1, .int (iI (((c : Nat) : Int)))), (2, .int (iI (ix)))]) fx dX5_withinAt_8 (by decide) rfl ?_
  refine KK.sub (ks := [3, 4, 5, 2, 1, 0]) (lv' := [(0, .ref t), (1, .int (iI (((c : Nat) : Int)))), (2, .int (iI (ix))), (3, .int (iI (((c : Nat) : Int)))), (4, .int (iI (ix))), (5, .int (iI (((c : Nat) : Int) + 1)))]) rfl ?_
  have e_1 : (((c : Nat) : Int) : Int) = (((c : Nat) : Int)) := by first | rfl | omega
  have e_2 : (((c : Nat) : Int) + 1 : Int) = ((((c + 1)) : Nat) : Int) := by first | rfl | omega
  refine KK.lve (lv' := [(0, .ref t), (1, .int (iI (((c : Nat) : Int)))), (2, .int (iI (ix))), (3, .int (iI ((((c : Nat) : Int))))), (4, .int (iI (ix))), (5, .int (iI (((((c + 1)) : Nat) : Int))))]) (lv_k (lv_k (lv_k (lv_c e_1 (lv_k (lv_c e_2 rfl)))))) ?_
  have i_3 : ((c + 1)) ≤ nc := hc
  have i_4 : -1 ≤ (((c : Nat) : Int)) ∧ (((c : Nat) : Int)) < 12 := by omega
  have i_5 : 0 ≤ ix ∧ ix ≤ 12 := hl
  have i_6 : waF par ww (nc - ((c + 1))) ((c + 1)) (((c : Nat) : Int)) ix = waF par ww (nc - (c + 1)) (c + 1) c ix := rfl
  refine kz_loop (σ := Nat × Int × Int) (fun z => nc - (z.1)) (fun z => ((z.1) ≤ nc) ∧ (-1 ≤ (z.2.1) ∧ (z.2.1) < 12) ∧ (0 ≤ (z.2.2) ∧ (z.2.2) ≤ 12) ∧ (waF par ww (nc - (z.1)) (z.1) (z.2.1) (z.2.2) = waF par ww (nc - (c + 1)) (c + 1) c ix)) (fun z => KK X G [(0, .ref t), (1, .int (iI (((c : Nat) : Int)))), (2, .int (iI (ix))), (3, .int (iI ((z.2.1)))), (4, .int (iI ((z.2.2)))), (5, .int (iI ((((z.1) : Nat) : Int))))] [(t, .inr (7, [.int (iI (((nc : Nat) : Int))), .ref q1, .ref q2, .ref q3, .ref q4, .ref q5])), (q1, cI G 12 par), (q2, cI G 12 wt), (q3, cC G 12 rl), (q4, cI G 12 (nz pw)), (q5, cI G 12 (nz ww))] 0 0 10 []) ?_ ((c + 1), ((c : Nat) : Int), ix) ⟨i_3, i_4, i_5, i_6⟩
  rintro ⟨o, a, m⟩ ⟨ho, ha, hm, hw⟩ ih_10
  have ho : o ≤ nc := ho
  have ha : -1 ≤ a ∧ a < 12 := ha
  have hm : 0 ≤ m ∧ m ≤ 12 := hm
  have hw : waF par ww (nc - o) o a m = waF par ww (nc - (c + 1)) (c + 1) c ix := hw
  show KK X G [(0, .ref t), (1, .int (iI (((c : Nat) : Int)))), (2, .int (iI (ix))), (3, .int (iI (a))), (4, .int (iI (m))), (5, .int (iI (((o : Nat) : Int))))] [(t, .inr (7, [.int (iI (((nc : Nat) : Int))), .ref q1, .ref q2, .ref q3, .ref q4, .ref q5])), (q1, cI G 12 par), (q2, cI G 12 wt), (q3, cC G 12 rl), (q4, cI G 12 (nz pw)), (q5, cI G 12 (nz ww))] 0 0 10 []
  refine kz_iload (pc := 10) fx 5 dX5_withinAt_10 rfl ?_
  refine kz_aload_n (pc := 12) fx 0 dX5_withinAt_12 rfl ?_
  refine kz_get (pc := 13) (ci := 7) (C := RX5) (T := TX5) (N := 6) (ref := "Statusboard$Tree") (v := .int (iI (((nc : Nat) : Int)))) fx 0 0 rfl rfl (fun u h => List.mem_cons_of_mem _ (pu_X5 u h)) (by decide) (List.mem_cons_of_mem _ (pt_1 38 rfl rfl)) rfl rfl dX5_withinAt_13 ?_
  refine kz_icmp_ge (pc := 16) fx 72 dX5_withinAt_16 (by decide) ⟨by omega, by omega⟩ ⟨by omega, by omega⟩ (fun h_16 => ?_) (fun h_16 => ?_)
  · refine kz_iload_n (pc := 72) fx 3 dX5_withinAt_72 rfl ?_
    refine kz_iret (pc := 73) fx rx dX5_withinAt_73 (by decide) (by decide) ?_
    exact rt_i (by rw [← hw]; first | (rw [show nc - o = 0 by omega]; rfl) | (rw [waF_d (by omega)])) (rfl)
  · refine kz_iload (pc := 19) fx 4 dX5_withinAt_19 rfl ?_
    refine kz_if_le (pc := 21) fx 72 dX5_withinAt_21 (by decide) ⟨by omega, by omega⟩ (fun h_21 => ?_) (fun h_21 => ?_)
    · refine kz_iload_n (pc := 72) fx 3 dX5_withinAt_72 rfl ?_
      refine kz_iret (pc := 73) fx rx dX5_withinAt_73 (by decide) (by decide) ?_
      exact rt_i (by rw [← hw]; first | (rw [show nc - o = 0 by omega]; rfl) | (rw [waF_d (by omega)])) (rfl)
    · refine kz_aload_n (pc := 24) fx 0 dX5_withinAt_24 rfl ?_
      refine kz_get (pc := 25) (ci := 7) (C := RX5) (T := TX5) (N := 6) (ref := "Statusboard$Tree") (v := .ref q1) fx 0 1 rfl rfl (fun u h => List.mem_cons_of_mem _ (pu_X5 u h)) (by decide) (List.mem_cons_of_mem _ (pt_1 41 rfl rfl)) rfl rfl dX5_withinAt_25 ?_
      refine kz_iload (pc := 28) fx 5 dX5_withinAt_28 rfl ?_
      refine kz_iald (pc := 30) (f := par) fx 1 o rfl rfl (by omega) (by decide) dX5_withinAt_30 ?_
      have r_7 := rpar o
      refine kz_iload_n (pc := 31) fx 3 dX5_withinAt_31 rfl ?_
      refine kz_icmp_ne (pc := 32) fx 66 dX5_withinAt_32 (by decide) ⟨by omega, by omega⟩ ⟨by omega, by omega⟩ (fun h_32 => ?_) (fun h_32 => ?_)
      · refine kz_iinc (pc := 66) (k := 5) (lv' := [(5, .int (iI (((o : Nat) : Int) + 1))), (0, .ref t), (1, .int (iI (((c : Nat) : Int)))), (2, .int (iI (ix))), (3, .int (iI (a))), (4, .int (iI (m)))]) fx dX5_withinAt_66 rfl (by decide) rfl ?_
        refine kz_goto (pc := 69) (tgt := 10) fx dX5_withinAt_69 (by decide) ?_
        refine KK.sub (ks := [1, 2, 3, 4, 5, 0]) (lv' := [(0, .ref t), (1, .int (iI (((c : Nat) : Int)))), (2, .int (iI (ix))), (3, .int (iI (a))), (4, .int (iI (m))), (5, .int (iI (((o : Nat) : Int) + 1)))]) rfl ?_
        have e_8 : (((o : Nat) : Int) + 1 : Int) = ((((o + 1)) : Nat) : Int) := by first | rfl | omega
        refine KK.lve (lv' := [(0, .ref t), (1, .int (iI (((c : Nat) : Int)))), (2, .int (iI (ix))), (3, .int (iI (a))), (4, .int (iI (m))), (5, .int (iI (((((o + 1)) : Nat) : Int))))]) (lv_k (lv_k (lv_k (lv_k (lv_k (lv_c e_8 rfl)))))) ?_
        have q_9 : ((o + 1)) ≤ nc := by omega
        have q_10 : -1 ≤ a ∧ a < 12 := by omega
        have q_11 : 0 ≤ m ∧ m ≤ 12 := by omega
        have q_12 : waF par ww (nc - ((o + 1))) ((o + 1)) a m = waF par ww (nc - (c + 1)) (c + 1) c ix := by rw [← hw, show nc - o = (nc - (o + 1)) + 1 by omega, waF_s]; repeat (first | rw [if_pos (by omega)] | rw [if_neg (by omega)]); first | rfl | skip
        have m_13 : nc - ((o + 1)) < nc - o := by omega
        exact ih_10 ((o + 1), a, m) ⟨q_9, q_10, q_11, q_12⟩ m_13
      · refine kz_aload_n (pc := 35) fx 0 dX5_withinAt_35 rfl ?_
        refine kz_iload (pc := 36) fx 5 dX5_withinAt_36 rfl ?_
        refine kz_callV (pc := 38) (As := [.int (iI (((o : Nat) : Int)))]) (st := []) (q0 := 0) (wc := [(t, .inr (7, [.int (iI (((nc : Nat) : Int))), .ref q1, .ref q2, .ref q3, .ref q4, .ref q5])), (q1, cI G 12 par), (q2, cI G 12 wt), (q3, cC G 12 rl), (q4, cI G 12 (nz pw)), (q5, cI G 12 (nz ww))]) fx (c_countWithin G l hlt t q1 q2 q3 q4 q5 nc par wt rl pw ww o hnc rww (by first | assumption | omega)) rt_ne (gu_V (pt_2 226 rfl rfl) (pt_2 227 rfl rfl) (pt_2 228 rfl rfl) (pt_1 2 rfl rfl) (pt_2 229 rfl rfl)) rfl ⟨rfl, by decide, by decide, rfl⟩ (by decide) [0, 1, 2, 3, 4, 5] (by decide) rfl rfl rfl rfl (Nat.le_of_ble_eq_true rfl) dX5_withinAt_38 (by decide) (by decide) (kc_rt (r := some (.int (iI (((pc12 (ww o) : Nat) : Int))))) (w1 := [(t, .inr (7, [.int (iI (((nc : Nat) : Int))), .ref q1, .ref q2, .ref q3, .ref q4, .ref q5])), (q1, cI G 12 par), (q2, cI G 12 wt), (q3, cC G 12 rl), (q4, cI G 12 (nz pw)), (q5, cI G 12 (nz ww))]) (w' := [(t, .inr (7, [.int (iI (((nc : Nat) : Int))), .ref q1, .ref q2, .ref q3, .ref q4, .ref q5])), (q1, cI G 12 par), (q2, cI G 12 wt), (q3, cC G 12 rl), (q4, cI G 12 (nz pw)), (q5, cI G 12 (nz ww))]) (is9 := [0, 1, 2, 3, 4, 5]) (stk' := [.int (iI (((pc12 (ww o) : Nat) : Int)))]) rfl (by decide) rfl ?_)
        have hpc := pc12_le (ww o)
        refine kz_istore (pc := 41) (lv' := [(6, .int (iI (((pc12 (ww o) : Nat) : Int)))), (0, .ref t), (1, .int (iI (((c : Nat) : Int)))), (2, .int (iI (ix))), (3, .int (iI (a))), (4, .int (iI (m))), (5, .int (iI (((o : Nat) : Int))))]) fx dX5_withinAt_41 (by decide) rfl ?_
        refine kz_iload (pc := 43) fx 5 dX5_withinAt_43 rfl ?_
        refine kz_iload (pc := 45) fx 0 dX5_withinAt_45 rfl ?_
        refine kz_icmp_gt (pc := 47) fx 59 dX5_withinAt_47 (by decide) ⟨by omega, by omega⟩ ⟨by omega, by omega⟩ (fun h_47 => ?_) (fun h_47 => ?_)
        · refine kz_iload (pc := 59) fx 5 dX5_withinAt_59 rfl ?_
          refine kz_iload (pc := 61) fx 0 dX5_withinAt_61 rfl ?_
          refine kz_isub (pc := 63) fx dX5_withinAt_63 ?_
          refine kz_istore (pc := 64) (lv' := [(4, .int (iI (m - ((pc12 (ww o) : Nat) : Int)))), (6, .int (iI (((pc12 (ww o) : Nat) : Int)))), (0, .ref t), (1, .int (iI (((c : Nat) : Int)))), (2, .int (iI (ix))), (3, .int (iI (a))), (5, .int (iI (((o : Nat) : Int))))]) fx dX5_withinAt_64 (by decide) rfl ?_
          refine kz_iinc (pc := 66) (k := 6) (lv' := [(5, .int (iI (((o : Nat) : Int) + 1))), (4, .int (iI (m - ((pc12 (ww o) : Nat) : Int)))), (6, .int (iI (((pc12 (ww o) : Nat) : Int)))), (0, .ref t), (1, .int (iI (((c : Nat) : Int)))), (2, .int (iI (ix))), (3, .int (iI (a)))]) fx dX5_withinAt_66 rfl (by decide) rfl ?_
          refine kz_goto (pc := 69) (tgt := 10) fx dX5_withinAt_69 (by decide) ?_
          refine KK.sub (ks := [3, 4, 5, 6, 1, 0]) (lv' := [(0, .ref t), (1, .int (iI (((c : Nat) : Int)))), (2, .int (iI (ix))), (3, .int (iI (a))), (4, .int (iI (m - ((pc12 (ww o) : Nat) : Int)))), (5, .int (iI (((o : Nat) : Int) + 1)))]) rfl ?_
          have e_14 : (m - ((pc12 (ww o) : Nat) : Int) : Int) = (m - ((pc12 (ww o) : Nat) : Int)) := by first | rfl | omega
          have e_15 : (((o : Nat) : Int) + 1 : Int) = ((((o + 1)) : Nat) : Int) := by first | rfl | omega
          refine KK.lve (lv' := [(0, .ref t), (1, .int (iI (((c : Nat) : Int)))), (2, .int (iI (ix))), (3, .int (iI (a))), (4, .int (iI ((m - ((pc12 (ww o) : Nat) : Int))))), (5, .int (iI (((((o + 1)) : Nat) : Int))))]) (lv_k (lv_k (lv_k (lv_k (lv_c e_14 (lv_c e_15 rfl)))))) ?_
          have q_16 : ((o + 1)) ≤ nc := by omega
          have q_17 : -1 ≤ a ∧ a < 12 := by omega
          have q_18 : 0 ≤ (m - ((pc12 (ww o) : Nat) : Int)) ∧ (m - ((pc12 (ww o) : Nat) : Int)) ≤ 12 := by omega
          have q_19 : waF par ww (nc - ((o + 1))) ((o + 1)) a (m - ((pc12 (ww o) : Nat) : Int)) = waF par ww (nc - (c + 1)) (c + 1) c ix := by rw [← hw, show nc - o = (nc - (o + 1)) + 1 by omega, waF_s]; repeat (first | rw [if_pos (by omega)] | rw [if_neg (by omega)]); first | rfl | skip
          have m_20 : nc - ((o + 1)) < nc - o := by omega
          exact ih_10 ((o + 1), a, m - ((pc12 (ww o) : Nat) : Int)) ⟨q_16, q_17, q_18, q_19⟩ m_20
        · refine kz_iload (pc := 50) fx 6 dX5_withinAt_50 rfl ?_
          refine kz_istore_n (pc := 52) (lv' := [(3, .int (iI (((o : Nat) : Int)))), (6, .int (iI (((pc12 (ww o) : Nat) : Int)))), (0, .ref t), (1, .int (iI (((c : Nat) : Int)))), (2, .int (iI (ix))), (4, .int (iI (m))), (5, .int (iI (((o : Nat) : Int))))]) fx dX5_withinAt_52 rfl (by decide) rfl ?_
          refine kz_iinc (pc := 53) (k := 5) (lv' := [(4, .int (iI (m + (-1)))), (3, .int (iI (((o : Nat) : Int)))), (6, .int (iI (((pc12 (ww o) : Nat) : Int)))), (0, .ref t), (1, .int (iI (((c : Nat) : Int)))), (2, .int (iI (ix))), (5, .int (iI (((o : Nat) : Int))))]) fx dX5_withinAt_53 rfl (by decide) rfl ?_
          refine kz_goto (pc := 56) (tgt := 66) fx dX5_withinAt_56 (by decide) ?_
          refine kz_iinc (pc := 66) (k := 6) (lv' := [(5, .int (iI (((o : Nat) : Int) + 1))), (4, .int (iI (m + (-1)))), (3, .int (iI (((o : Nat) : Int)))), (6, .int (iI (((pc12 (ww o) : Nat) : Int)))), (0, .ref t), (1, .int (iI (((c : Nat) : Int)))), (2, .int (iI (ix)))]) fx dX5_withinAt_66 rfl (by decide) rfl ?_
          refine kz_goto (pc := 69) (tgt := 10) fx dX5_withinAt_69 (by decide) ?_
          refine KK.sub (ks := [4, 5, 6, 2, 1, 0]) (lv' := [(0, .ref t), (1, .int (iI (((c : Nat) : Int)))), (2, .int (iI (ix))), (3, .int (iI (((o : Nat) : Int)))), (4, .int (iI (m + (-1)))), (5, .int (iI (((o : Nat) : Int) + 1)))]) rfl ?_
          have e_21 : (((o : Nat) : Int) : Int) = (((o : Nat) : Int)) := by first | rfl | omega
          have e_22 : (m + (-1) : Int) = (m + (-1)) := by first | rfl | omega
          have e_23 : (((o : Nat) : Int) + 1 : Int) = ((((o + 1)) : Nat) : Int) := by first | rfl | omega
          refine KK.lve (lv' := [(0, .ref t), (1, .int (iI (((c : Nat) : Int)))), (2, .int (iI (ix))), (3, .int (iI ((((o : Nat) : Int))))), (4, .int (iI ((m + (-1))))), (5, .int (iI (((((o + 1)) : Nat) : Int))))]) (lv_k (lv_k (lv_k (lv_c e_21 (lv_c e_22 (lv_c e_23 rfl)))))) ?_
          have q_24 : ((o + 1)) ≤ nc := by omega
          have q_25 : -1 ≤ (((o : Nat) : Int)) ∧ (((o : Nat) : Int)) < 12 := by omega
          have q_26 : 0 ≤ (m + (-1)) ∧ (m + (-1)) ≤ 12 := by omega
          have q_27 : waF par ww (nc - ((o + 1))) ((o + 1)) (((o : Nat) : Int)) (m + (-1)) = waF par ww (nc - (c + 1)) (c + 1) c ix := by rw [← hw, show nc - o = (nc - (o + 1)) + 1 by omega, waF_s]; repeat (first | rw [if_pos (by omega)] | rw [if_neg (by omega)]); first | rfl | skip
          have m_28 : nc - ((o + 1)) < nc - o := by omega
          exact ih_10 ((o + 1), ((o : Nat) : Int), m + (-1)) ⟨q_24, q_25, q_26, q_27⟩ m_28
set_option maxRecDepth 100000 in
set_option maxHeartbeats 4000000 in
/-- onPath -/
theorem c_onPath (G : GX) (l : Launch) (hlt : l.stackTraces = false) (t : Nat) (q1 : Nat) (q2 : Nat) (q3 : Nat) (q4 : Nat) (q5 : Nat) (nc : Nat) (par : Nat → Int) (wt : Nat → Int) (rl : Nat → Int) (pw : Nat → Nat) (ww : Nat → Nat) (c : Nat) (ix : Int) (hnc : nc ≤ 12) (rpw : ∀ j, pw j < 4096) (hc : c < nc) (hl : 0 ≤ ix ∧ ix ≤ 12) : HC G l yX5_onPath wsX5_onPath 1 21 0 0 [.ref t, .int (iI (((c : Nat) : Int))), .int (iI (ix))] [(t, .inr (7, [.int (iI (((nc : Nat) : Int))), .ref q1, .ref q2, .ref q3, .ref q4, .ref q5])), (q1, cI G 12 par), (q2, cI G 12 wt), (q3, cC G 12 rl), (q4, cI G 12 (nz pw)), (q5, cI G 12 (nz ww))] (rt (some (.int (iI (opF (pw c) c c 0 ix)))) [(t, .inr (7, [.int (iI (((nc : Nat) : Int))), .ref q1, .ref q2, .ref q3, .ref q4, .ref q5])), (q1, cI G 12 par), (q2, cI G 12 wt), (q3, cC G 12 rl), (q4, cI G 12 (nz pw)), (q5, cI G 12 (nz ww))]) := by
  refine kz_start cX5_onPath 5 (some .int) [(0, .ref t), (1, .int (iI (((c : Nat) : Int)))), (2, .int (iI (ix)))] hlt (by decide) rfl (Nat.le_of_ble_eq_true rfl) rfl (fun X fx rx => ?_)
  refine kz_iload_n (pc := 0) fx 2 dX5_onPath_0 rfl ?_
  refine kz_istore_n (pc := 1) (lv' := [(3, .int (iI (ix))), (0, .ref t), (1, .int (iI (((c : Nat) : Int)))), (2, .int (iI (ix)))]) fx dX5_onPath_1 rfl (by decide) rfl ?_
  refine kz_iconst (pc := 2) fx dX5_onPath_2 ?_
  refine kz_istore (pc := 3) (lv' := [(4, .int (iI (0))), (3, .int (iI (ix))), (0, .ref t), (1, .int (iI (((c : Nat) : Int)))), (2, .int (iI (ix)))]) fx dX5_onPath_3 (by decide) rfl ?_
  refine KK.sub (ks := [2, 3, 4, 1, 0]) (lv' := [(0, .ref t), (1, .int (iI (((c : Nat) : Int)))), (2, .int (iI (ix))), (3, .int (iI (ix))), (4, .int (iI (0)))]) rfl ?_
  have e_1 : (0 : Int) = ((0 : Nat) : Int) := by first | rfl | omega
  refine KK.lve (lv' := [(0, .ref t), (1, .int (iI (((c : Nat) : Int)))), (2, .int (iI (ix))), (3, .int (iI (ix))), (4, .int (iI (((0 : Nat) : Int))))]) (lv_k (lv_k (lv_k (lv_k (lv_c e_1 rfl))))) ?_
  have i_2 : 0 ≤ c := Nat.zero_le c
  have i_3 : 0 ≤ ix ∧ ix ≤ 12 := hl
  have i_4 : opF (pw c) c (c - 0) 0 ix = opF (pw c) c c 0 ix := rfl
  refine kz_loop (σ := Nat × Int) (fun z => c - (z.1)) (fun z => ((z.1) ≤ c) ∧ (0 ≤ (z.2) ∧ (z.2) ≤ 12) ∧ (opF (pw c) c (c - (z.1)) (z.1) (z.2) = opF (pw c) c c 0 ix)) (fun z => KK X G [(0, .ref t), (1, .int (iI (((c : Nat) : Int)))), (2, .int (iI (ix))), (3, .int (iI ((z.2)))), (4, .int (iI ((((z.1) : Nat) : Int))))] [(t, .inr (7, [.int (iI (((nc : Nat) : Int))), .ref q1, .ref q2, .ref q3, .ref q4, .ref q5])), (q1, cI G 12 par), (q2, cI G 12 wt), (q3, cC G 12 rl), (q4, cI G 12 (nz pw)), (q5, cI G 12 (nz ww))] 0 0 5 []) ?_ (0, ix) ⟨i_2, i_3, i_4⟩
  rintro ⟨o, m⟩ ⟨ho, hm, hw⟩ ih_5
  have ho : o ≤ c := ho
  have hm : 0 ≤ m ∧ m ≤ 12 := hm
  have hw : opF (pw c) c (c - o) o m = opF (pw c) c c 0 ix := hw
  show KK X G [(0, .ref t), (1, .int (iI (((c : Nat) : Int)))), (2, .int (iI (ix))), (3, .int (iI (m))), (4, .int (iI (((o : Nat) : Int))))] [(t, .inr (7, [.int (iI (((nc : Nat) : Int))), .ref q1, .ref q2, .ref q3, .ref q4, .ref q5])), (q1, cI G 12 par), (q2, cI G 12 wt), (q3, cC G 12 rl), (q4, cI G 12 (nz pw)), (q5, cI G 12 (nz ww))] 0 0 5 []
  refine kz_iload (pc := 5) fx 4 dX5_onPath_5 rfl ?_
  refine kz_iload_n (pc := 7) fx 1 dX5_onPath_7 rfl ?_
  refine kz_icmp_ge (pc := 8) fx 41 dX5_onPath_8 (by decide) ⟨by omega, by omega⟩ ⟨by omega, by omega⟩ (fun h_8 => ?_) (fun h_8 => ?_)
  · refine kz_iload_n (pc := 41) fx 1 dX5_onPath_41 rfl ?_
    refine kz_iret (pc := 42) fx rx dX5_onPath_42 (by decide) (by decide) ?_
    exact rt_i (by rw [← hw]; first | (rw [show c - o = 0 by omega]; rfl) | (rw [show c - o = (c - (o + 1)) + 1 by omega, opF_s, if_pos (by assumption), if_pos (by omega)])) (rfl)
  · refine kz_aload_n (pc := 11) fx 0 dX5_onPath_11 rfl ?_
    refine kz_get (pc := 12) (ci := 7) (C := RX5) (T := TX5) (N := 6) (ref := "Statusboard$Tree") (v := .ref q4) fx 0 4 rfl rfl (fun u h => List.mem_cons_of_mem _ (pu_X5 u h)) (by decide) (List.mem_cons_of_mem _ (pt_1 48 rfl rfl)) rfl rfl dX5_onPath_12 ?_
    refine kz_iload_n (pc := 15) fx 1 dX5_onPath_15 rfl ?_
    refine kz_iald (pc := 16) (f := nz pw) fx 4 c rfl rfl (by omega) (by decide) dX5_onPath_16 ?_
    have r_5 := rpw c
    refine kz_iload (pc := 17) fx 4 dX5_onPath_17 rfl ?_
    refine kz_callS (pc := 19) (As := [.int (iI (((pw c : Nat) : Int))), .int (iI (((o : Nat) : Int)))]) (st := []) (wc := []) fx (c_holds G l hlt (pw c) o (by first | assumption | omega) (by first | assumption | omega)) rt_ne (gu_S (pt_2 145 rfl rfl) (pt_2 146 rfl rfl) (pt_1 2 rfl rfl) (pt_2 147 rfl rfl)) rfl ⟨by decide, by decide, rfl⟩ (by decide) [] (by decide) rfl rfl (Nat.le_of_ble_eq_true rfl) dX5_onPath_19 (by decide) (by decide) (kc_rt (r := some (.int (iI (bI ((pw c).testBit o))))) (w1 := []) (w' := [(t, .inr (7, [.int (iI (((nc : Nat) : Int))), .ref q1, .ref q2, .ref q3, .ref q4, .ref q5])), (q1, cI G 12 par), (q2, cI G 12 wt), (q3, cC G 12 rl), (q4, cI G 12 (nz pw)), (q5, cI G 12 (nz ww))]) (is9 := [0, 1, 2, 3, 4, 5]) (stk' := [.int (iI (bI ((pw c).testBit o)))]) rfl (by decide) rfl ?_)
    refine kz_ifb_eq (pc := 22) fx 35 dX5_onPath_22 (by decide) (fun h_22 => ?_) (fun h_22 => ?_)
    · refine kz_iinc (pc := 35) (k := 4) (lv' := [(4, .int (iI (((o : Nat) : Int) + 1))), (0, .ref t), (1, .int (iI (((c : Nat) : Int)))), (2, .int (iI (ix))), (3, .int (iI (m)))]) fx dX5_onPath_35 rfl (by decide) rfl ?_
      refine kz_goto (pc := 38) (tgt := 5) fx dX5_onPath_38 (by decide) ?_
      refine KK.sub (ks := [1, 2, 3, 4, 0]) (lv' := [(0, .ref t), (1, .int (iI (((c : Nat) : Int)))), (2, .int (iI (ix))), (3, .int (iI (m))), (4, .int (iI (((o : Nat) : Int) + 1)))]) rfl ?_
      have e_6 : (((o : Nat) : Int) + 1 : Int) = ((((o + 1)) : Nat) : Int) := by first | rfl | omega
      refine KK.lve (lv' := [(0, .ref t), (1, .int (iI (((c : Nat) : Int)))), (2, .int (iI (ix))), (3, .int (iI (m))), (4, .int (iI (((((o + 1)) : Nat) : Int))))]) (lv_k (lv_k (lv_k (lv_k (lv_c e_6 rfl))))) ?_
      have q_7 : ((o + 1)) ≤ c := by omega
      have q_8 : 0 ≤ m ∧ m ≤ 12 := by omega
      have q_9 : opF (pw c) c (c - ((o + 1))) ((o + 1)) m = opF (pw c) c c 0 ix := by
          rw [← hw, show c - o = (c - (o + 1)) + 1 by omega, opF_s]
          try rw [show m + (-1) = m - 1 from rfl]
          first | (rw [if_pos (by assumption), if_neg (by omega)]; done) | (rw [if_neg (by simp [*])])
      have m_10 : c - ((o + 1)) < c - o := by omega
      exact ih_5 ((o + 1), m) ⟨q_7, q_8, q_9⟩ m_10
    · refine kz_iload_n (pc := 25) fx 3 dX5_onPath_25 rfl ?_
      refine kz_if_ne (pc := 26) fx 32 dX5_onPath_26 (by decide) ⟨by omega, by omega⟩ (fun h_26 => ?_) (fun h_26 => ?_)
      · refine kz_iinc (pc := 32) (k := 3) (lv' := [(3, .int (iI (m + (-1)))), (0, .ref t), (1, .int (iI (((c : Nat) : Int)))), (2, .int (iI (ix))), (4, .int (iI (((o : Nat) : Int))))]) fx dX5_onPath_32 rfl (by decide) rfl ?_
        refine kz_iinc (pc := 35) (k := 4) (lv' := [(4, .int (iI (((o : Nat) : Int) + 1))), (3, .int (iI (m + (-1)))), (0, .ref t), (1, .int (iI (((c : Nat) : Int)))), (2, .int (iI (ix)))]) fx dX5_onPath_35 rfl (by decide) rfl ?_
        refine kz_goto (pc := 38) (tgt := 5) fx dX5_onPath_38 (by decide) ?_
        refine KK.sub (ks := [2, 3, 4, 1, 0]) (lv' := [(0, .ref t), (1, .int (iI (((c : Nat) : Int)))), (2, .int (iI (ix))), (3, .int (iI (m + (-1)))), (4, .int (iI (((o : Nat) : Int) + 1)))]) rfl ?_
        have e_11 : (m + (-1) : Int) = (m + (-1)) := by first | rfl | omega
        have e_12 : (((o : Nat) : Int) + 1 : Int) = ((((o + 1)) : Nat) : Int) := by first | rfl | omega
        refine KK.lve (lv' := [(0, .ref t), (1, .int (iI (((c : Nat) : Int)))), (2, .int (iI (ix))), (3, .int (iI ((m + (-1))))), (4, .int (iI (((((o + 1)) : Nat) : Int))))]) (lv_k (lv_k (lv_k (lv_c e_11 (lv_c e_12 rfl))))) ?_
        have q_13 : ((o + 1)) ≤ c := by omega
        have q_14 : 0 ≤ (m + (-1)) ∧ (m + (-1)) ≤ 12 := by omega
        have q_15 : opF (pw c) c (c - ((o + 1))) ((o + 1)) (m + (-1)) = opF (pw c) c c 0 ix := by
          rw [← hw, show c - o = (c - (o + 1)) + 1 by omega, opF_s]
          try rw [show m + (-1) = m - 1 from rfl]
          first | (rw [if_pos (by assumption), if_neg (by omega)]; done) | (rw [if_neg (by simp [*])])
        have m_16 : c - ((o + 1)) < c - o := by omega
        exact ih_5 ((o + 1), m + (-1)) ⟨q_13, q_14, q_15⟩ m_16
      · refine kz_iload (pc := 29) fx 4 dX5_onPath_29 rfl ?_
        refine kz_iret (pc := 31) fx rx dX5_onPath_31 (by decide) (by decide) ?_
        exact rt_i (by rw [← hw]; first | (rw [show c - o = 0 by omega]; rfl) | (rw [show c - o = (c - (o + 1)) + 1 by omega, opF_s, if_pos (by assumption), if_pos (by omega)])) (rfl)
set_option maxRecDepth 100000 in
set_option maxHeartbeats 4000000 in
/-- countTo -/
theorem c_countTo (G : GX) (l : Launch) (hlt : l.stackTraces = false) (tml : Nat) (f1 : Nat) (nm : Nat) (cap : Nat) (fac : Nat → Int) (x : Int) (hcap : cap < 65536) (hnm : 4 * nm ≤ cap) (rfac : ∀ j, j < 4 * nm → -2147483648 ≤ fac j ∧ fac j < 2147483648) (hx : -2147483648 ≤ x ∧ x < 2147483648) : HC G l yX2_countTo wsX2_countTo 1 22 0 0 [.ref tml, .int (iI (x))] [(tml, .inr (4, [.int (iI (((nm : Nat) : Int))), .ref f1])), (f1, cI G cap fac)] (rt (some (.int (iI (((cN (fun k => decide (fac (k * 4 + 0) = x)) nm : Nat) : Int))))) [(tml, .inr (4, [.int (iI (((nm : Nat) : Int))), .ref f1])), (f1, cI G cap fac)]) := by
  refine kz_start cX2_countTo 4 (some .int) [(0, .ref tml), (1, .int (iI (x)))] hlt (by decide) rfl (Nat.le_of_ble_eq_true rfl) rfl (fun X fx rx => ?_)
  refine kz_iconst (pc := 0) fx dX2_countTo_0 ?_
  refine kz_istore_n (pc := 1) (lv' := [(2, .int (iI (0))), (0, .ref tml), (1, .int (iI (x)))]) fx dX2_countTo_1 rfl (by decide) rfl ?_
  refine kz_iconst (pc := 2) fx dX2_countTo_2 ?_
  refine kz_istore_n (pc := 3) (lv' := [(3, .int (iI (0))), (2, .int (iI (0))), (0, .ref tml), (1, .int (iI (x)))]) fx dX2_countTo_3 rfl (by decide) rfl ?_
  refine KK.sub (ks := [2, 3, 1, 0]) (lv' := [(0, .ref tml), (1, .int (iI (x))), (2, .int (iI (0))), (3, .int (iI (0)))]) rfl ?_
  refine kz_loop (σ := Nat) (fun i => nm - i) (fun i => i ≤ nm) (fun i => KK X G [(0, .ref tml), (1, .int (iI (x))), (2, .int (iI (((cN (fun k => decide (fac (k * 4 + 0) = x)) i : Nat) : Int)))), (3, .int (iI (((i : Nat) : Int))))] [(tml, .inr (4, [.int (iI (((nm : Nat) : Int))), .ref f1])), (f1, cI G cap fac)] 0 0 4 []) ?_ 0 (by omega)
  intro i hI_4 ih_4
  have hle_4 : i ≤ nm := hI_4
  show KK X G [(0, .ref tml), (1, .int (iI (x))), (2, .int (iI (((cN (fun k => decide (fac (k * 4 + 0) = x)) i : Nat) : Int)))), (3, .int (iI (((i : Nat) : Int))))] [(tml, .inr (4, [.int (iI (((nm : Nat) : Int))), .ref f1])), (f1, cI G cap fac)] 0 0 4 []
  have hcn := cN_le (fun k => decide (fac (k * 4 + 0) = x)) i
  refine kz_iload_n (pc := 4) fx 3 dX2_countTo_4 rfl ?_
  refine kz_aload_n (pc := 5) fx 0 dX2_countTo_5 rfl ?_
  refine kz_get (pc := 6) (ci := 4) (C := RX2) (T := TX2) (N := 2) (ref := "Statusboard$Mails") (v := .int (iI (((nm : Nat) : Int)))) fx 0 0 rfl rfl (fun u h => List.mem_cons_of_mem _ (pu_X2 u h)) (by decide) (List.mem_cons_of_mem _ (pt_1 145 rfl rfl)) rfl rfl dX2_countTo_6 ?_
  refine kz_icmp_ge (pc := 9) fx 31 dX2_countTo_9 (by decide) ⟨by omega, by omega⟩ ⟨by omega, by omega⟩ (fun h_9 => ?_) (fun h_9 => ?_)
  · refine kz_iload_n (pc := 31) fx 2 dX2_countTo_31 rfl ?_
    refine kz_iret (pc := 32) fx rx dX2_countTo_32 (by decide) (by decide) ?_
    exact rt_i (by rw [show i = nm by omega]) (rfl)
  · refine kz_aload_n (pc := 12) fx 0 dX2_countTo_12 rfl ?_
    refine kz_iload_n (pc := 13) fx 3 dX2_countTo_13 rfl ?_
    refine kz_iconst (pc := 14) fx dX2_countTo_14 ?_
    refine kz_callV (pc := 15) (As := [.int (iI (((i : Nat) : Int))), .int (iI (0))]) (st := []) (q0 := 0) (wc := [(tml, .inr (4, [.int (iI (((nm : Nat) : Int))), .ref f1])), (f1, cI G cap fac)]) fx (c_fact G l hlt tml f1 nm cap fac i 0 hcap (by first | assumption | omega)) rt_ne (gu_V (pt_4 169 rfl rfl) (pt_4 170 rfl rfl) (pt_4 171 rfl rfl) (pt_1 6 rfl rfl) (pt_4 172 rfl rfl)) rfl ⟨rfl, by decide, by decide, rfl⟩ (by decide) [0, 1] (by decide) rfl rfl rfl rfl (Nat.le_of_ble_eq_true rfl) dX2_countTo_15 (by decide) (by decide) (kc_rt (r := some (.int (iI (fac (i * 4 + 0))))) (w1 := [(tml, .inr (4, [.int (iI (((nm : Nat) : Int))), .ref f1])), (f1, cI G cap fac)]) (w' := [(tml, .inr (4, [.int (iI (((nm : Nat) : Int))), .ref f1])), (f1, cI G cap fac)]) (is9 := [0, 1]) (stk' := [.int (iI (fac (i * 4 + 0)))]) rfl (by decide) rfl ?_)
    have rf9 := rfac (i * 4 + 0) (by omega)
    refine kz_iload_n (pc := 18) fx 1 dX2_countTo_18 rfl ?_
    refine kz_icmp_ne (pc := 19) fx 25 dX2_countTo_19 (by decide) ⟨by omega, by omega⟩ ⟨by omega, by omega⟩ (fun h_19 => ?_) (fun h_19 => ?_)
    · refine kz_iinc (pc := 25) (k := 3) (lv' := [(3, .int (iI (((i : Nat) : Int) + 1))), (0, .ref tml), (1, .int (iI (x))), (2, .int (iI (((cN (fun k => decide (fac (k * 4 + 0) = x)) i : Nat) : Int))))]) fx dX2_countTo_25 rfl (by decide) rfl ?_
      refine kz_goto (pc := 28) (tgt := 4) fx dX2_countTo_28 (by decide) ?_
      refine KK.sub (ks := [1, 2, 3, 0]) (lv' := [(0, .ref tml), (1, .int (iI (x))), (2, .int (iI (((cN (fun k => decide (fac (k * 4 + 0) = x)) i : Nat) : Int)))), (3, .int (iI (((i : Nat) : Int) + 1)))]) rfl ?_
      have e_1 : (((cN (fun k => decide (fac (k * 4 + 0) = x)) i : Nat) : Int) : Int) = ((cN (fun k => decide (fac (k * 4 + 0) = x)) ((i + 1)) : Nat) : Int) := by first | (rw [cN_t (by simp_all)]; omega) | (rw [cN_f (by simp_all)])
      have e_2 : (((i : Nat) : Int) + 1 : Int) = ((((i + 1)) : Nat) : Int) := by rfl
      refine KK.lve (lv' := [(0, .ref tml), (1, .int (iI (x))), (2, .int (iI (((cN (fun k => decide (fac (k * 4 + 0) = x)) ((i + 1)) : Nat) : Int)))), (3, .int (iI (((((i + 1)) : Nat) : Int))))]) (lv_k (lv_k (lv_c e_1 (lv_c e_2 rfl)))) ?_
      exact ih_4 (i + 1) (by omega) (by omega)
    · refine kz_iinc (pc := 22) (k := 2) (lv' := [(2, .int (iI (((cN (fun k => decide (fac (k * 4 + 0) = x)) i : Nat) : Int) + 1))), (0, .ref tml), (1, .int (iI (x))), (3, .int (iI (((i : Nat) : Int))))]) fx dX2_countTo_22 rfl (by decide) rfl ?_
      refine kz_iinc (pc := 25) (k := 3) (lv' := [(3, .int (iI (((i : Nat) : Int) + 1))), (2, .int (iI (((cN (fun k => decide (fac (k * 4 + 0) = x)) i : Nat) : Int) + 1))), (0, .ref tml), (1, .int (iI (x)))]) fx dX2_countTo_25 rfl (by decide) rfl ?_
      refine kz_goto (pc := 28) (tgt := 4) fx dX2_countTo_28 (by decide) ?_
      refine KK.sub (ks := [2, 3, 1, 0]) (lv' := [(0, .ref tml), (1, .int (iI (x))), (2, .int (iI (((cN (fun k => decide (fac (k * 4 + 0) = x)) i : Nat) : Int) + 1))), (3, .int (iI (((i : Nat) : Int) + 1)))]) rfl ?_
      have e_3 : (((cN (fun k => decide (fac (k * 4 + 0) = x)) i : Nat) : Int) + 1 : Int) = ((cN (fun k => decide (fac (k * 4 + 0) = x)) ((i + 1)) : Nat) : Int) := by first | (rw [cN_t (by simp_all)]; omega) | (rw [cN_f (by simp_all)])
      have e_4 : (((i : Nat) : Int) + 1 : Int) = ((((i + 1)) : Nat) : Int) := by rfl
      refine KK.lve (lv' := [(0, .ref tml), (1, .int (iI (x))), (2, .int (iI (((cN (fun k => decide (fac (k * 4 + 0) = x)) ((i + 1)) : Nat) : Int)))), (3, .int (iI (((((i + 1)) : Nat) : Int))))]) (lv_k (lv_k (lv_c e_3 (lv_c e_4 rfl)))) ?_
      exact ih_4 (i + 1) (by omega) (by omega)
set_option maxRecDepth 100000 in
set_option maxHeartbeats 4000000 in
/-- Arrays.copyOf -/
theorem c_copyOf (G : GX) (l : Launch) (hlt : l.stackTraces = false) (a : Nat) (n : Nat) (k : Nat) (f : Nat → Int) (hn : n < k) (hk : k < 65536) : HC G l yJ7_copyOf_59c91 wsJ7_copyOf_59c91 1 24 1 k [.ref a, .int (iI (((k : Nat) : Int)))] [(a, cI G n f)] (fun (o9 : OC) (w9 : va_W) => (∃ f9 : Nat, ∃ g : Nat → Int, (∀ j, j < n → g j = f j) ∧ o9 = .inl (some (.ref f9)) ∧ w9 = [(a, cI G n f), (f9, cI G k g)])) := by
  refine kz_start cJ7_copyOf_59c91 3 (some (.array .int)) [(0, .ref a), (1, .int (iI (((k : Nat) : Int))))] hlt (by decide) rfl (Nat.le_of_ble_eq_true rfl) rfl (fun X fx rx => ?_)
  refine kz_iload_n (pc := 0) fx 1 dJ7_copyOf_59c91_0 rfl ?_
  refine kz_aload_n (pc := 1) fx 0 dJ7_copyOf_59c91_1 rfl ?_
  refine kz_ialen (pc := 2) fx 0 rfl dJ7_copyOf_59c91_2 ?_
  refine kz_icmp_ne (pc := 3) fx 14 dJ7_copyOf_59c91_3 (by decide) ⟨by omega, by omega⟩ ⟨by omega, by omega⟩ (fun h_3 => ?_) (fun h_3 => ?_)
  · refine kz_iload_n (pc := 14) fx 1 dJ7_copyOf_59c91_14 rfl ?_
    refine kz_newi (pc := 15) (n := k) fx rfl (by omega) (List.mem_cons_of_mem _ (pt_1 64 rfl rfl)) dJ7_copyOf_59c91_15 (by decide) (by omega) (fun q_1 => ?_)
    refine kz_astore_n (pc := 17) (lv' := [(2, .ref q_1), (0, .ref a), (1, .int (iI (((k : Nat) : Int))))]) fx dJ7_copyOf_59c91_17 rfl (by decide) rfl ?_
    refine kz_aload_n (pc := 18) fx 1 dJ7_copyOf_59c91_18 rfl ?_
    refine kz_iconst (pc := 19) fx dJ7_copyOf_59c91_19 ?_
    refine kz_aload_n (pc := 20) fx 0 dJ7_copyOf_59c91_20 rfl ?_
    refine kz_iconst (pc := 21) fx dJ7_copyOf_59c91_21 ?_
    refine kz_aload_n (pc := 22) fx 1 dJ7_copyOf_59c91_22 rfl ?_
    refine kz_ialen (pc := 23) fx 0 rfl dJ7_copyOf_59c91_23 ?_
    refine kz_iload_n (pc := 24) fx 2 dJ7_copyOf_59c91_24 rfl ?_
    refine kz_mmin (pc := 25) fx (List.mem_cons_of_mem _ (pt_3 66 rfl rfl)) (List.mem_cons_of_mem _ (pt_3 67 rfl rfl)) (List.mem_cons_of_mem _ (pt_1 18 rfl rfl)) (List.mem_cons_of_mem _ (pt_3 68 rfl rfl)) (by decide) (Nat.le_of_ble_eq_true rfl) (by omega) (by omega) ⟨by omega, by omega⟩ ⟨by omega, by omega⟩ dJ7_copyOf_59c91_25 ?_
    refine kz_copy (pc := 28) (k := n) (w' := [(a, cI G n f), (q_1, cI G k (fun j => if j < n then f j else (fun _ => 0) j))]) fx 0 1 rfl rfl (by omega) (by omega) (by omega) (by omega) (List.mem_cons_of_mem _ (pt_3 69 rfl rfl)) (List.mem_cons_of_mem _ (pt_3 71 rfl rfl)) (List.mem_cons_of_mem _ (pt_3 70 rfl rfl)) (List.mem_cons_of_mem _ (pt_1 19 rfl rfl)) (by decide) (by decide) dJ7_copyOf_59c91_28 rfl ?_
    refine kz_aload_n (pc := 31) fx 0 dJ7_copyOf_59c91_31 rfl ?_
    refine kz_aret (pc := 32) fx rx dJ7_copyOf_59c91_32 (by decide) (by omega) ?_
    exact ⟨q_1, (fun j => if j < n then f j else (fun _ => 0) j), (by intro j hj; show (if j < n then f j else 0) = f j; rw [if_pos hj]), (by rfl), (rfl)⟩
  · exfalso; omega
set_option maxRecDepth 100000 in
set_option maxHeartbeats 4000000 in
/-- Mails.add -/
theorem c_mailAdd (G : GX) (l : Launch) (hlt : l.stackTraces = false) (tml : Nat) (f1 : Nat) (nm : Nat) (cap : Nat) (fac : Nat → Int) (mp : Nat → Int) (mc : Nat → Int) (ml : Nat → Int) (mm : Nat → Int) (a : Int) (b : Int) (c : Int) (d : Int) (hcap : cap < 32768) (hnm : nm < 3072) (hq : mlQ fac nm mp mc ml mm) (hg : 4 * nm < cap) (hc4 : cap % 4 = 0) : HC G l yX2_add wsX2_add 0 0 0 0 [.ref tml, .int (iI (a)), .int (iI (b)), .int (iI (c)), .int (iI (d))] [(tml, .inr (4, [.int (iI (((nm : Nat) : Int))), .ref f1])), (f1, cI G cap fac)] (fun (o9 : OC) (w9 : va_W) => (∃ fac2 : Nat → Int, (mlQ fac2 (nm + 1) (zup mp nm a) (zup mc nm b) (zup ml nm c) (zup mm nm d)) ∧ o9 = .inl none ∧ w9 = [(tml, .inr (4, [.int (iI (((nm + 1 : Nat) : Int))), .ref f1])), (f1, cI G cap fac2)])) := by
  refine kz_start cX2_add 6 none [(0, .ref tml), (1, .int (iI (a))), (2, .int (iI (b))), (3, .int (iI (c))), (4, .int (iI (d)))] hlt (by decide) rfl (Nat.le_of_ble_eq_true rfl) rfl (fun X fx rx => ?_)
  refine kz_aload_n (pc := 0) fx 0 dX2_add_0 rfl ?_
  refine kz_get (pc := 1) (ci := 4) (C := RX2) (T := TX2) (N := 2) (ref := "Statusboard$Mails") (v := .int (iI (((nm : Nat) : Int)))) fx 0 0 rfl rfl (fun u h => List.mem_cons_of_mem _ (pu_X2 u h)) (by decide) (List.mem_cons_of_mem _ (pt_1 145 rfl rfl)) rfl rfl dX2_add_1 ?_
  refine kz_sipush (pc := 4) fx dX2_add_4 (by decide +kernel) ?_
  refine kz_icmp_lt (pc := 7) fx 11 dX2_add_7 (by decide) ⟨by omega, by omega⟩ ⟨by decide, by decide⟩ (fun h_7 => ?_) (fun h_7 => ?_)
  · refine kz_aload_n (pc := 11) fx 0 dX2_add_11 rfl ?_
    refine kz_get (pc := 12) (ci := 4) (C := RX2) (T := TX2) (N := 2) (ref := "Statusboard$Mails") (v := .int (iI (((nm : Nat) : Int)))) fx 0 0 rfl rfl (fun u h => List.mem_cons_of_mem _ (pu_X2 u h)) (by decide) (List.mem_cons_of_mem _ (pt_1 145 rfl rfl)) rfl rfl dX2_add_12 ?_
    refine kz_iconst (pc := 15) fx dX2_add_15 ?_
    refine kz_imul (pc := 16) fx dX2_add_16 ?_
    refine kz_istore (pc := 17) (lv' := [(5, .int (iI (((nm : Nat) : Int) * 4))), (0, .ref tml), (1, .int (iI (a))), (2, .int (iI (b))), (3, .int (iI (c))), (4, .int (iI (d)))]) fx dX2_add_17 (by decide) rfl ?_
    refine kz_iload (pc := 19) fx 0 dX2_add_19 rfl ?_
    refine kz_aload_n (pc := 21) fx 1 dX2_add_21 rfl ?_
    refine kz_get (pc := 22) (ci := 4) (C := RX2) (T := TX2) (N := 2) (ref := "Statusboard$Mails") (v := .ref f1) fx 0 1 rfl rfl (fun u h => List.mem_cons_of_mem _ (pu_X2 u h)) (by decide) (List.mem_cons_of_mem _ (pt_1 147 rfl rfl)) rfl rfl dX2_add_22 ?_
    refine kz_ialen (pc := 25) fx 1 rfl dX2_add_25 ?_
    refine kz_icmp_lt (pc := 26) fx 47 dX2_add_26 (by decide) ⟨by omega, by omega⟩ ⟨by omega, by omega⟩ (fun h_26 => ?_) (fun h_26 => ?_)
    · refine kz_aload_n (pc := 47) fx 1 dX2_add_47 rfl ?_
      refine kz_get (pc := 48) (ci := 4) (C := RX2) (T := TX2) (N := 2) (ref := "Statusboard$Mails") (v := .ref f1) fx 0 1 rfl rfl (fun u h => List.mem_cons_of_mem _ (pu_X2 u h)) (by decide) (List.mem_cons_of_mem _ (pt_1 147 rfl rfl)) rfl rfl dX2_add_48 ?_
      refine kz_iload (pc := 51) fx 0 dX2_add_51 rfl ?_
      refine kz_iconst (pc := 53) fx dX2_add_53 ?_
      refine kz_iadd (pc := 54) fx dX2_add_54 ?_
      refine kz_iload_n (pc := 55) fx 2 dX2_add_55 rfl ?_
      refine kz_iast (pc := 56) (f := fac) (w' := [(tml, .inr (4, [.int (iI (((nm : Nat) : Int))), .ref f1])), (f1, cI G cap (zup fac (nm * 4 + 0) a))]) fx 1 (nm * 4 + 0) rfl (by omega) (by omega) (by omega) dX2_add_56 rfl ?_
      refine kz_aload_n (pc := 57) fx 1 dX2_add_57 rfl ?_
      refine kz_get (pc := 58) (ci := 4) (C := RX2) (T := TX2) (N := 2) (ref := "Statusboard$Mails") (v := .ref f1) fx 0 1 rfl rfl (fun u h => List.mem_cons_of_mem _ (pu_X2 u h)) (by decide) (List.mem_cons_of_mem _ (pt_1 147 rfl rfl)) rfl rfl dX2_add_58 ?_
      refine kz_iload (pc := 61) fx 0 dX2_add_61 rfl ?_
      refine kz_iconst (pc := 63) fx dX2_add_63 ?_
      refine kz_iadd (pc := 64) fx dX2_add_64 ?_
      refine kz_iload_n (pc := 65) fx 3 dX2_add_65 rfl ?_
      refine kz_iast (pc := 66) (f := zup fac (nm * 4 + 0) a) (w' := [(tml, .inr (4, [.int (iI (((nm : Nat) : Int))), .ref f1])), (f1, cI G cap (zup (zup fac (nm * 4 + 0) a) (nm * 4 + 1) b))]) fx 1 (nm * 4 + 1) rfl (by omega) (by omega) (by omega) dX2_add_66 rfl ?_
      refine kz_aload_n (pc := 67) fx 1 dX2_add_67 rfl ?_
      refine kz_get (pc := 68) (ci := 4) (C := RX2) (T := TX2) (N := 2) (ref := "Statusboard$Mails") (v := .ref f1) fx 0 1 rfl rfl (fun u h => List.mem_cons_of_mem _ (pu_X2 u h)) (by decide) (List.mem_cons_of_mem _ (pt_1 147 rfl rfl)) rfl rfl dX2_add_68 ?_
      refine kz_iload (pc := 71) fx 0 dX2_add_71 rfl ?_
      refine kz_iconst (pc := 73) fx dX2_add_73 ?_
      refine kz_iadd (pc := 74) fx dX2_add_74 ?_
      refine kz_iload_n (pc := 75) fx 4 dX2_add_75 rfl ?_
      refine kz_iast (pc := 76) (f := zup (zup fac (nm * 4 + 0) a) (nm * 4 + 1) b) (w' := [(tml, .inr (4, [.int (iI (((nm : Nat) : Int))), .ref f1])), (f1, cI G cap (zup (zup (zup fac (nm * 4 + 0) a) (nm * 4 + 1) b) (nm * 4 + 2) c))]) fx 1 (nm * 4 + 2) rfl (by omega) (by omega) (by omega) dX2_add_76 rfl ?_
      refine kz_aload_n (pc := 77) fx 1 dX2_add_77 rfl ?_
      refine kz_get (pc := 78) (ci := 4) (C := RX2) (T := TX2) (N := 2) (ref := "Statusboard$Mails") (v := .ref f1) fx 0 1 rfl rfl (fun u h => List.mem_cons_of_mem _ (pu_X2 u h)) (by decide) (List.mem_cons_of_mem _ (pt_1 147 rfl rfl)) rfl rfl dX2_add_78 ?_
      refine kz_iload (pc := 81) fx 0 dX2_add_81 rfl ?_
      refine kz_iconst (pc := 83) fx dX2_add_83 ?_
      refine kz_iadd (pc := 84) fx dX2_add_84 ?_
      refine kz_iload (pc := 85) fx 5 dX2_add_85 rfl ?_
      refine kz_iast (pc := 87) (f := zup (zup (zup fac (nm * 4 + 0) a) (nm * 4 + 1) b) (nm * 4 + 2) c) (w' := [(tml, .inr (4, [.int (iI (((nm : Nat) : Int))), .ref f1])), (f1, cI G cap (zup (zup (zup (zup fac (nm * 4 + 0) a) (nm * 4 + 1) b) (nm * 4 + 2) c) (nm * 4 + 3) d))]) fx 1 (nm * 4 + 3) rfl (by omega) (by omega) (by omega) dX2_add_87 rfl ?_
      refine kz_aload_n (pc := 88) fx 1 dX2_add_88 rfl ?_
      refine kz_dup (pc := 89) fx dX2_add_89 rfl ?_
      refine kz_get (pc := 90) (ci := 4) (C := RX2) (T := TX2) (N := 2) (ref := "Statusboard$Mails") (v := .int (iI (((nm : Nat) : Int)))) fx 0 0 rfl rfl (fun u h => List.mem_cons_of_mem _ (pu_X2 u h)) (by decide) (List.mem_cons_of_mem _ (pt_1 145 rfl rfl)) rfl rfl dX2_add_90 ?_
      refine kz_iconst (pc := 93) fx dX2_add_93 ?_
      refine kz_iadd (pc := 94) fx dX2_add_94 ?_
      refine kz_put (pc := 95) (ci := 4) (C := RX2) (T := TX2) (N := 2) (ref := "Statusboard$Mails") (v := .int (iI (((nm : Nat) : Int) + 1))) (w' := [(tml, .inr (4, [.int (iI (((nm : Nat) : Int) + 1)), .ref f1])), (f1, cI G cap (zup (zup (zup (zup fac (nm * 4 + 0) a) (nm * 4 + 1) b) (nm * 4 + 2) c) (nm * 4 + 3) d))]) fx tyX2 0 0 rfl rfl (fun u h => List.mem_cons_of_mem _ (pu_X2 u h)) tyX2_ok nmX2 (by decide) (List.mem_cons_of_mem _ (pt_1 145 rfl rfl)) rfl rfl rfl rfl (Nat.le_of_ble_eq_true rfl) dX2_add_95 rfl ?_
      refine kz_vret (pc := 98) fx rx dX2_add_98 (by decide) (by decide) ?_
      exact ⟨(zup (zup (zup (zup fac (nm * 4 + 0) a) (nm * 4 + 1) b) (nm * 4 + 2) c) (nm * 4 + 3) d), (by first | exact mlQ_s (n4 := nm * 4) rfl hq (fun j _ => rfl) | exact mlQ_s (n4 := nm * 4) rfl hq (fun j hj => hgf9 j (by omega))), rfl, (rfl)⟩
    · exfalso; omega
  · exfalso; omega
set_option maxRecDepth 100000 in
set_option maxHeartbeats 4000000 in
/-- Mails.add -/
theorem c_mailAddG (G : GX) (l : Launch) (hlt : l.stackTraces = false) (tml : Nat) (f1 : Nat) (nm : Nat) (cap : Nat) (fac : Nat → Int) (mp : Nat → Int) (mc : Nat → Int) (ml : Nat → Int) (mm : Nat → Int) (a : Int) (b : Int) (c : Int) (d : Int) (hcap : cap < 32768) (hnm : nm < 3072) (hq : mlQ fac nm mp mc ml mm) (hg : 4 * nm = cap) (hc0 : 0 < cap) : HC G l yX2_add wsX2_add 2 46 1 (8 * nm) [.ref tml, .int (iI (a)), .int (iI (b)), .int (iI (c)), .int (iI (d))] [(tml, .inr (4, [.int (iI (((nm : Nat) : Int))), .ref f1])), (f1, cI G cap fac)] (fun (o9 : OC) (w9 : va_W) => (∃ f2 : Nat, ∃ fac2 : Nat → Int, (mlQ fac2 (nm + 1) (zup mp nm a) (zup mc nm b) (zup ml nm c) (zup mm nm d)) ∧ o9 = .inl none ∧ w9 = [(tml, .inr (4, [.int (iI (((nm + 1 : Nat) : Int))), .ref f2])), (f2, cI G (2 * cap) fac2)])) := by
  refine kz_start cX2_add 6 none [(0, .ref tml), (1, .int (iI (a))), (2, .int (iI (b))), (3, .int (iI (c))), (4, .int (iI (d)))] hlt (by decide) rfl (Nat.le_of_ble_eq_true rfl) rfl (fun X fx rx => ?_)
  refine kz_aload_n (pc := 0) fx 0 dX2_add_0 rfl ?_
  refine kz_get (pc := 1) (ci := 4) (C := RX2) (T := TX2) (N := 2) (ref := "Statusboard$Mails") (v := .int (iI (((nm : Nat) : Int)))) fx 0 0 rfl rfl (fun u h => List.mem_cons_of_mem _ (pu_X2 u h)) (by decide) (List.mem_cons_of_mem _ (pt_1 145 rfl rfl)) rfl rfl dX2_add_1 ?_
  refine kz_sipush (pc := 4) fx dX2_add_4 (by decide +kernel) ?_
  refine kz_icmp_lt (pc := 7) fx 11 dX2_add_7 (by decide) ⟨by omega, by omega⟩ ⟨by decide, by decide⟩ (fun h_7 => ?_) (fun h_7 => ?_)
  · refine kz_aload_n (pc := 11) fx 0 dX2_add_11 rfl ?_
    refine kz_get (pc := 12) (ci := 4) (C := RX2) (T := TX2) (N := 2) (ref := "Statusboard$Mails") (v := .int (iI (((nm : Nat) : Int)))) fx 0 0 rfl rfl (fun u h => List.mem_cons_of_mem _ (pu_X2 u h)) (by decide) (List.mem_cons_of_mem _ (pt_1 145 rfl rfl)) rfl rfl dX2_add_12 ?_
    refine kz_iconst (pc := 15) fx dX2_add_15 ?_
    refine kz_imul (pc := 16) fx dX2_add_16 ?_
    refine kz_istore (pc := 17) (lv' := [(5, .int (iI (((nm : Nat) : Int) * 4))), (0, .ref tml), (1, .int (iI (a))), (2, .int (iI (b))), (3, .int (iI (c))), (4, .int (iI (d)))]) fx dX2_add_17 (by decide) rfl ?_
    refine kz_iload (pc := 19) fx 0 dX2_add_19 rfl ?_
    refine kz_aload_n (pc := 21) fx 1 dX2_add_21 rfl ?_
    refine kz_get (pc := 22) (ci := 4) (C := RX2) (T := TX2) (N := 2) (ref := "Statusboard$Mails") (v := .ref f1) fx 0 1 rfl rfl (fun u h => List.mem_cons_of_mem _ (pu_X2 u h)) (by decide) (List.mem_cons_of_mem _ (pt_1 147 rfl rfl)) rfl rfl dX2_add_22 ?_
    refine kz_ialen (pc := 25) fx 1 rfl dX2_add_25 ?_
    refine kz_icmp_lt (pc := 26) fx 47 dX2_add_26 (by decide) ⟨by omega, by omega⟩ ⟨by omega, by omega⟩ (fun h_26 => ?_) (fun h_26 => ?_)
    · exfalso; omega
    · refine kz_aload_n (pc := 29) fx 1 dX2_add_29 rfl ?_
      refine kz_aload_n (pc := 30) fx 1 dX2_add_30 rfl ?_
      refine kz_get (pc := 31) (ci := 4) (C := RX2) (T := TX2) (N := 2) (ref := "Statusboard$Mails") (v := .ref f1) fx 0 1 rfl rfl (fun u h => List.mem_cons_of_mem _ (pu_X2 u h)) (by decide) (List.mem_cons_of_mem _ (pt_1 147 rfl rfl)) rfl rfl dX2_add_31 ?_
      refine kz_iconst (pc := 34) fx dX2_add_34 ?_
      refine kz_aload_n (pc := 35) fx 1 dX2_add_35 rfl ?_
      refine kz_get (pc := 36) (ci := 4) (C := RX2) (T := TX2) (N := 2) (ref := "Statusboard$Mails") (v := .ref f1) fx 0 1 rfl rfl (fun u h => List.mem_cons_of_mem _ (pu_X2 u h)) (by decide) (List.mem_cons_of_mem _ (pt_1 147 rfl rfl)) rfl rfl dX2_add_36 ?_
      refine kz_ialen (pc := 39) fx 1 rfl dX2_add_39 ?_
      refine kz_imul (pc := 40) fx dX2_add_40 ?_
      refine KK.st0 (v := 2 * ((cap : Nat) : Int)) (v' := ((2 * cap : Nat) : Int)) (by omega) ?_
      refine kz_callS (pc := 41) (As := [.ref f1, .int (iI (((2 * cap : Nat) : Int)))]) (st := [.ref tml]) (wc := [(f1, cI G cap fac)]) fx (c_copyOf G l hlt f1 cap (2 * cap) fac (by first | assumption | omega) (by first | assumption | omega)) (by rintro E w9 (⟨_, _, _, h8, _⟩) <;> cases h8) (gu_S (pt_3 56 rfl rfl) (pt_3 57 rfl rfl) (pt_1 17 rfl rfl) (pt_3 58 rfl rfl)) rfl ⟨by decide, by decide, rfl⟩ (by decide) [1] (by decide) rfl rfl (Nat.le_of_ble_eq_true rfl) dX2_add_41 (by decide) (by omega) (fun r9 w9 hp9 => ?_)
      rcases hp9 with ⟨f9_2, g_3, v_4, h8, h9⟩
      · refine kc_rt (r := some (.ref f9_2)) (w1 := [(f1, cI G cap fac), (f9_2, cI G (2 * cap) g_3)]) (w' := [(tml, .inr (4, [.int (iI (((nm : Nat) : Int))), .ref f1])), (f1, cI G cap fac), (f9_2, cI G (2 * cap) g_3)]) (is9 := [0, 1, 2]) (stk' := [.ref f9_2, .ref tml]) rfl (by decide) rfl ?_ _ _ ⟨h8, h9⟩
        have hgf9 := v_4
        refine kz_put (pc := 44) (ci := 4) (C := RX2) (T := TX2) (N := 2) (ref := "Statusboard$Mails") (v := .ref f9_2) (w' := [(tml, .inr (4, [.int (iI (((nm : Nat) : Int))), .ref f9_2])), (f1, cI G cap fac), (f9_2, cI G (2 * cap) g_3)]) fx tyX2 0 1 rfl rfl (fun u h => List.mem_cons_of_mem _ (pu_X2 u h)) tyX2_ok nmX2 (by decide) (List.mem_cons_of_mem _ (pt_1 147 rfl rfl)) rfl rfl rfl rfl (Nat.le_of_ble_eq_true rfl) dX2_add_44 rfl ?_
        refine kz_aload_n (pc := 47) fx 1 dX2_add_47 rfl ?_
        refine kz_get (pc := 48) (ci := 4) (C := RX2) (T := TX2) (N := 2) (ref := "Statusboard$Mails") (v := .ref f9_2) fx 0 1 rfl rfl (fun u h => List.mem_cons_of_mem _ (pu_X2 u h)) (by decide) (List.mem_cons_of_mem _ (pt_1 147 rfl rfl)) rfl rfl dX2_add_48 ?_
        refine kz_iload (pc := 51) fx 0 dX2_add_51 rfl ?_
        refine kz_iconst (pc := 53) fx dX2_add_53 ?_
        refine kz_iadd (pc := 54) fx dX2_add_54 ?_
        refine kz_iload_n (pc := 55) fx 2 dX2_add_55 rfl ?_
        refine kz_iast (pc := 56) (f := g_3) (w' := [(tml, .inr (4, [.int (iI (((nm : Nat) : Int))), .ref f9_2])), (f1, cI G cap fac), (f9_2, cI G (2 * cap) (zup g_3 (nm * 4 + 0) a))]) fx 2 (nm * 4 + 0) rfl (by omega) (by omega) (by omega) dX2_add_56 rfl ?_
        refine kz_aload_n (pc := 57) fx 1 dX2_add_57 rfl ?_
        refine kz_get (pc := 58) (ci := 4) (C := RX2) (T := TX2) (N := 2) (ref := "Statusboard$Mails") (v := .ref f9_2) fx 0 1 rfl rfl (fun u h => List.mem_cons_of_mem _ (pu_X2 u h)) (by decide) (List.mem_cons_of_mem _ (pt_1 147 rfl rfl)) rfl rfl dX2_add_58 ?_
        refine kz_iload (pc := 61) fx 0 dX2_add_61 rfl ?_
        refine kz_iconst (pc := 63) fx dX2_add_63 ?_
        refine kz_iadd (pc := 64) fx dX2_add_64 ?_
        refine kz_iload_n (pc := 65) fx 3 dX2_add_65 rfl ?_
        refine kz_iast (pc := 66) (f := zup g_3 (nm * 4 + 0) a) (w' := [(tml, .inr (4, [.int (iI (((nm : Nat) : Int))), .ref f9_2])), (f1, cI G cap fac), (f9_2, cI G (2 * cap) (zup (zup g_3 (nm * 4 + 0) a) (nm * 4 + 1) b))]) fx 2 (nm * 4 + 1) rfl (by omega) (by omega) (by omega) dX2_add_66 rfl ?_
        refine kz_aload_n (pc := 67) fx 1 dX2_add_67 rfl ?_
        refine kz_get (pc := 68) (ci := 4) (C := RX2) (T := TX2) (N := 2) (ref := "Statusboard$Mails") (v := .ref f9_2) fx 0 1 rfl rfl (fun u h => List.mem_cons_of_mem _ (pu_X2 u h)) (by decide) (List.mem_cons_of_mem _ (pt_1 147 rfl rfl)) rfl rfl dX2_add_68 ?_
        refine kz_iload (pc := 71) fx 0 dX2_add_71 rfl ?_
        refine kz_iconst (pc := 73) fx dX2_add_73 ?_
        refine kz_iadd (pc := 74) fx dX2_add_74 ?_
        refine kz_iload_n (pc := 75) fx 4 dX2_add_75 rfl ?_
        refine kz_iast (pc := 76) (f := zup (zup g_3 (nm * 4 + 0) a) (nm * 4 + 1) b) (w' := [(tml, .inr (4, [.int (iI (((nm : Nat) : Int))), .ref f9_2])), (f1, cI G cap fac), (f9_2, cI G (2 * cap) (zup (zup (zup g_3 (nm * 4 + 0) a) (nm * 4 + 1) b) (nm * 4 + 2) c))]) fx 2 (nm * 4 + 2) rfl (by omega) (by omega) (by omega) dX2_add_76 rfl ?_
        refine kz_aload_n (pc := 77) fx 1 dX2_add_77 rfl ?_
        refine kz_get (pc := 78) (ci := 4) (C := RX2) (T := TX2) (N := 2) (ref := "Statusboard$Mails") (v := .ref f9_2) fx 0 1 rfl rfl (fun u h => List.mem_cons_of_mem _ (pu_X2 u h)) (by decide) (List.mem_cons_of_mem _ (pt_1 147 rfl rfl)) rfl rfl dX2_add_78 ?_
        refine kz_iload (pc := 81) fx 0 dX2_add_81 rfl ?_
        refine kz_iconst (pc := 83) fx dX2_add_83 ?_
        refine kz_iadd (pc := 84) fx dX2_add_84 ?_
        refine kz_iload (pc := 85) fx 5 dX2_add_85 rfl ?_
        refine kz_iast (pc := 87) (f := zup (zup (zup g_3 (nm * 4 + 0) a) (nm * 4 + 1) b) (nm * 4 + 2) c) (w' := [(tml, .inr (4, [.int (iI (((nm : Nat) : Int))), .ref f9_2])), (f1, cI G cap fac), (f9_2, cI G (2 * cap) (zup (zup (zup (zup g_3 (nm * 4 + 0) a) (nm * 4 + 1) b) (nm * 4 + 2) c) (nm * 4 + 3) d))]) fx 2 (nm * 4 + 3) rfl (by omega) (by omega) (by omega) dX2_add_87 rfl ?_
        refine kz_aload_n (pc := 88) fx 1 dX2_add_88 rfl ?_
        refine kz_dup (pc := 89) fx dX2_add_89 rfl ?_
        refine kz_get (pc := 90) (ci := 4) (C := RX2) (T := TX2) (N := 2) (ref := "Statusboard$Mails") (v := .int (iI (((nm : Nat) : Int)))) fx 0 0 rfl rfl (fun u h => List.mem_cons_of_mem _ (pu_X2 u h)) (by decide) (List.mem_cons_of_mem _ (pt_1 145 rfl rfl)) rfl rfl dX2_add_90 ?_
        refine kz_iconst (pc := 93) fx dX2_add_93 ?_
        refine kz_iadd (pc := 94) fx dX2_add_94 ?_
        refine kz_put (pc := 95) (ci := 4) (C := RX2) (T := TX2) (N := 2) (ref := "Statusboard$Mails") (v := .int (iI (((nm : Nat) : Int) + 1))) (w' := [(tml, .inr (4, [.int (iI (((nm : Nat) : Int) + 1)), .ref f9_2])), (f1, cI G cap fac), (f9_2, cI G (2 * cap) (zup (zup (zup (zup g_3 (nm * 4 + 0) a) (nm * 4 + 1) b) (nm * 4 + 2) c) (nm * 4 + 3) d))]) fx tyX2 0 0 rfl rfl (fun u h => List.mem_cons_of_mem _ (pu_X2 u h)) tyX2_ok nmX2 (by decide) (List.mem_cons_of_mem _ (pt_1 145 rfl rfl)) rfl rfl rfl rfl (Nat.le_of_ble_eq_true rfl) dX2_add_95 rfl ?_
        refine KK.perm (w' := [(tml, .inr (4, [.int (iI (((nm : Nat) : Int) + 1)), .ref f9_2])), (f9_2, cI G (2 * cap) (zup (zup (zup (zup g_3 (nm * 4 + 0) a) (nm * 4 + 1) b) (nm * 4 + 2) c) (nm * 4 + 3) d))]) [0, 2] (by decide) rfl ?_
        refine kz_vret (pc := 98) fx rx dX2_add_98 (by decide) (by omega) ?_
        exact ⟨f9_2, (zup (zup (zup (zup g_3 (nm * 4 + 0) a) (nm * 4 + 1) b) (nm * 4 + 2) c) (nm * 4 + 3) d), (by first | exact mlQ_s (n4 := nm * 4) rfl hq (fun j _ => rfl) | exact mlQ_s (n4 := nm * 4) rfl hq (fun j hj => hgf9 j (by omega))), rfl, (rfl)⟩
  · exfalso; omega
