/-! CALLS at the layer: the callee's cells are cut out by their places, what came back stands behind the rest. -/
section KC
def restI (w : va_W) (isC : List Nat) : List Nat := (List.range w.length).filter (fun i => !isC.contains i)
def pickW (w : va_W) (is : List Nat) : va_W := is.filterMap (fun i => w[i]?)
theorem kc_pick (w : va_W) : ∀ is : List Nat, (∀ i ∈ is, i < w.length) → is.map (fun i => w[i]?) = (pickW w is).map some
  | [], _ => rfl
  | i :: is, h => by
    have h1 : i < w.length := h i List.mem_cons_self
    have h2 := kc_pick w is (fun j hj => h j (List.mem_cons_of_mem _ hj))
    unfold pickW at h2 ⊢
    rw [List.map_cons, List.filterMap_cons, h2]
    have h3 : w[i]? = some w[i] := List.getElem?_eq_getElem h1
    simp only [h3, List.map_cons]
theorem kc_nd : ∀ l : List Nat, l.Nodup → va_nd l = true
  | [], _ => rfl
  | a :: l, h => by
    rw [List.nodup_cons] at h
    unfold va_nd
    rw [kc_nd l h.2, Bool.and_true, decide_eq_true_eq]
    exact h.1
theorem kc_rest (w : va_W) (isC : List Nat) : (restI w isC).map (fun i => w[i]?) = (pickW w (restI w isC)).map some :=
  kc_pick w _ (fun i hi => by
    have := (List.mem_filter.mp hi).1
    exact List.mem_range.mp this)
theorem kc_rnd (w : va_W) (isC : List Nat) : va_nd (restI w isC) = true := kc_nd _ (List.Pairwise.filter _ List.nodup_range)
theorem kc_dis (w : va_W) (isC : List Nat) : ∀ i ∈ restI w isC, i ∉ isC := fun i hi hc => by
  have h := (List.mem_filter.mp hi).2
  rw [List.contains_iff_mem.mpr hc] at h
  cases h
theorem HC.met {G : GX} {l : Launch} {y : MethodName} {ws : List Cond} {fr lo mc ms : Nat} {av : List Value} {w : va_W} {P : OC → va_W → Prop} (h : HC G l y ws fr lo mc ms av w P) (hn : ∀ E w', ¬ P (.inr E) w') (sz : Nat) : Met l y ws { frames := fr, cells := mc, slots := ms, locals := lo } (PC G av w sz) (QC G P (va_A w sz)) mc ms (va_A w sz) := by
  intro p e h1 h2 h3 s m args below h4 h5 h6 h7
  obtain ⟨n, o, a1, a2, a3, a4⟩ := h sz p e h1 h2 h3 s m args below h4 h5 h6 h7
  refine ⟨n, o, a1, a2, a3, ?_⟩
  rcases a4 with a4 | ⟨q, -, E, ce, L, ⟨⟨w', hp, -⟩, -⟩, -⟩
  · exact a4
  · exact absurd hp (hn E w')
theorem HC.imp {G : GX} {l : Launch} {y : MethodName} {ws : List Cond} {fr lo mc ms : Nat} {av : List Value} {w : va_W} {P P' : OC → va_W → Prop} (h : HC G l y ws fr lo mc ms av w P) (hi : ∀ o w', P o w' → P' o w') : HC G l y ws fr lo mc ms av w P' := by
  intro sz p e h1 h2 h3 s m args below h4 h5 h6 h7
  obtain ⟨n, o, a1, a2, a3, a4⟩ := h sz p e h1 h2 h3 s m args below h4 h5 h6 h7
  refine ⟨n, o, a1, a2, a3, ?_⟩
  rcases a4 with ⟨⟨⟨r, w', e1, hp, e2⟩, e3⟩, e4⟩ | ⟨q, e1, E, ce, L, ⟨⟨w', hp, e2⟩, e3⟩, e4⟩
  · exact Or.inl ⟨⟨⟨r, w', e1, hi _ _ hp, e2⟩, e3⟩, e4⟩
  · exact Or.inr ⟨q, e1, E, ce, L, ⟨⟨w', hi _ _ hp, e2⟩, e3⟩, e4⟩
section CORE
variable {p : Program} {l : Launch} {e : Env} {R : Room} {s : State} {m : MethodId} {args : Array Value} {below : List Frame} {meth : Method} {c : Code} {H : Heap} {locs : List Loc} {cs sl mc' ms' pc : Nat} {Q : State → Prop} {ls : Array Slot} {stk rest : List Value} {a : Array Value} {G : GX} {P : OC → va_W → Prop} {w wc : va_W} {A : Nat → Prop}
theorem kc_core (hr : va_Run p l e R s m args below meth c H locs cs sl mc' ms' (F0 m pc ls stk) rest (QC G P (va_A wc H.size) a) (va_A wc H.size)) (hP : va_P G.1 vwCl w H) (hD : va_D A w) (hS : va_S A s.heap H locs) (hA : ∀ q : Nat, s.heap.size ≤ q → A q) (isC : List Nat) (hC : isC.map (fun i => w[i]?) = wc.map some)
    (kk : ∀ (r : Option Value) (w1 : va_W), P (.inl r) w1 → ∀ (H1 : Heap) (locs1 : List Loc), va_P G.1 vwCl (pickW w (restI w isC) ++ w1) H1 → va_D A (pickW w (restI w isC) ++ w1) → va_S A s.heap H1 locs1 → W p l e R s m args below meth c H1 locs1 (cs + mc') (sl + ms') Q (F0 m (pc + 3) ls (r.toList ++ rest))) : W p l e R s m args below meth c H locs cs sl Q (F0 m pc ls stk) := by
  have hF := va_free hD hS hA isC hC
  intro T hT X
  obtain ⟨v, st₀, t, T', L, h0, X', hL, e1, e2, ⟨⟨r, w1, hv, hp, hP1, hD1⟩, hFr⟩, st⟩ := hr T hT X
  cases hv
  obtain ⟨k1, k2, k3⟩ := vx_keep h0 e1 hS (fun q _ h => hF q h) hF hL hFr
  rw [← e1] at hP1
  obtain ⟨hP2, hD2⟩ := va_join hP hD isC (restI w isC) hC (kc_rest w isC) (kc_rnd w isC) (kc_dis w isC) k2 hF hP1 hD1
  obtain ⟨t2, a1, b1⟩ := kk v w1 hp T'.heap (locs ++ L) hP2 hD2 k3 T' rfl X'
  exact ⟨t2, st t2 a1, b1⟩
theorem kc_coreX (hr : vx_Run p l e R s m args below meth c H locs cs sl mc' ms' (F0 m pc ls stk) rest (QC G P (va_A wc H.size) a) (XQ G P (va_A wc H.size)) (va_A wc H.size)) (hP : va_P G.1 vwCl w H) (hD : va_D A w) (hS : va_S A s.heap H locs) (hA : ∀ q : Nat, s.heap.size ≤ q → A q) (isC : List Nat) (hC : isC.map (fun i => w[i]?) = wc.map some)
    (kx : ∀ (E : String) (w1 : va_W), P (.inr E) w1 → ∀ (H1 : Heap) (locs1 : List Loc) (ce : Cell) (q : Addr), va_P G.1 vwCl (pickW w (restI w isC) ++ w1) H1 → va_D A (pickW w (restI w isC) ++ w1) → va_S A s.heap H1 locs1 → H1[q]? = some ce → ce.vm = .none → s.vm.findClass E = some ce.cls → vx_W p l e R s m args below meth c H1 locs1 (cs + mc') (sl + ms') Q (F0 m pc ls rest) q)
    (kk : ∀ (r : Option Value) (w1 : va_W), P (.inl r) w1 → ∀ (H1 : Heap) (locs1 : List Loc), va_P G.1 vwCl (pickW w (restI w isC) ++ w1) H1 → va_D A (pickW w (restI w isC) ++ w1) → va_S A s.heap H1 locs1 → W p l e R s m args below meth c H1 locs1 (cs + mc') (sl + ms') Q (F0 m (pc + 3) ls (r.toList ++ rest))) : W p l e R s m args below meth c H locs cs sl Q (F0 m pc ls stk) := by
  have hF := va_free hD hS hA isC hC
  intro T hT X
  rcases hr T hT X with ⟨v, st₀, t, T', L, h0, X', hL, e1, e2, ⟨⟨r, w1, hv, hp, hP1, hD1⟩, hFr⟩, st⟩ | ⟨q, st₀, t, T', L, E, ce, h0, X', hL, e1, e2, ⟨⟨w1, hp, hP1, hD1⟩, hFr⟩, hce, hcv, hcl, st⟩
  · cases hv
    obtain ⟨k1, k2, k3⟩ := vx_keep h0 e1 hS (fun q _ h => hF q h) hF hL hFr
    rw [← e1] at hP1
    obtain ⟨hP2, hD2⟩ := va_join hP hD isC (restI w isC) hC (kc_rest w isC) (kc_rnd w isC) (kc_dis w isC) k2 hF hP1 hD1
    obtain ⟨t2, a1, b1⟩ := kk v w1 hp T'.heap (locs ++ L) hP2 hD2 k3 T' rfl X'
    exact ⟨t2, st t2 a1, b1⟩
  · obtain ⟨k1, k2, k3⟩ := vx_keep h0 e1 hS (fun q _ h => hF q h) hF hL hFr
    rw [← e1] at hP1
    obtain ⟨hP2, hD2⟩ := va_join hP hD isC (restI w isC) hC (kc_rest w isC) (kc_rnd w isC) (kc_dis w isC) k2 hF hP1 hD1
    obtain ⟨t2, a1, b1⟩ := kx E w1 hp T'.heap (locs ++ L) ce q hP2 hD2 k3 (by rw [e1]; exact hce) hcv hcl T' rfl X'
    exact ⟨t2, st.trans a1, b1⟩
end CORE
theorem kc_pre {G : GX} {A : Nat → Prop} {s U : State} {H : Heap} {locs : List Loc} {w wc : va_W} {As : List Value} (hE : ENV G A s s.heap) (hA : ∀ q : Nat, s.heap.size ≤ q → A q) (hP : va_P G.1 vwCl w H) (hD : va_D A w) (hS : va_S A s.heap H locs) (isC : List Nat) (hC : isC.map (fun i => w[i]?) = wc.map some) (hn : va_nd isC = true) (hU : U.heap = H) (hW : s.WarmedH U.vm) : PC G As wc H.size As.toArray U := by
  refine ⟨rfl, by rw [hU], ?_, (hD.sub isC hn hC).weaken (fun _ _ _ _ => trivial), ?_⟩
  · rw [hU]
    intro k q hk
    have h1 : (isC.map (fun i => w[i]?))[k]? = some (some q) := by rw [hC, List.getElem?_map, hk]; rfl
    rw [List.getElem?_map] at h1
    cases hi : isC[k]? with
    | none => rw [hi] at h1; cases h1
    | some i => rw [hi] at h1; exact hP i q (Option.some.inj h1)
  · rw [hU]
    exact ENV.narrow (ENV.warm hW (ENV.kept hE hS.2.1)) (va_free hD hS hA isC hC)
theorem KK.perm {X : CX} {G : GX} {lv : List (Nat × Value)} {w w' : va_W} {cs sl pc : Nat} {st : List Value} (is : List Nat) (hn : va_nd is = true) (hs : is.map (fun i => w[i]?) = w'.map some) (kk : KK X G lv w' cs sl pc st) : KK X G lv w cs sl pc st := by
  obtain ⟨p, l, e, R, s, m, args, below, meth, c, A, Q, nn⟩ := X
  intro H locs ls hP hD hS h
  refine kk H locs ls ?_ (hD.sub is hn hs) hS h
  intro k q hk
  have h1 : (is.map (fun i => w[i]?))[k]? = some (some q) := by rw [hs, List.getElem?_map, hk]; rfl
  rw [List.getElem?_map] at h1
  cases hi : is[k]? with
  | none => rw [hi] at h1; cases h1
  | some i => rw [hi] at h1; exact hP i q (Option.some.inj h1)
theorem KT.perm {X : CX} {G : GX} {lv : List (Nat × Value)} {w w' : va_W} {cs sl pc : Nat} {E : String} (is : List Nat) (hn : va_nd is = true) (hs : is.map (fun i => w[i]?) = w'.map some) (kk : KT X G lv w' cs sl pc E) : KT X G lv w cs sl pc E := by
  obtain ⟨p, l, e, R, s, m, args, below, meth, c, A, Q, nn⟩ := X
  intro H locs ls ce q st hP hD hS h
  refine kk H locs ls ce q st ?_ (hD.sub is hn hs) hS h
  intro k q hk
  have h1 : (is.map (fun i => w[i]?))[k]? = some (some q) := by rw [hs, List.getElem?_map, hk]; rfl
  rw [List.getElem?_map] at h1
  cases hi : is[k]? with
  | none => rw [hi] at h1; cases h1
  | some i => rw [hi] at h1; exact hP i q (Option.some.inj h1)
variable {X : CX} {l0 : Launch} {G : GX} {cc : ByteArray} {Ts : List Cond} {y : MethodName} {nL fr lo mc ms : Nat} {tb : List ExceptionTableEntry} {lv lv' : List (Nat × Value)} {w w' wc w1 : va_W} {cs sl pc : Nat} {st : List Value} {P : OC → va_W → Prop} {ret : Option FieldType}
variable {y' : MethodName} {ws' ws'' : List Cond} {fr' lo' mc' ms' idx maxL b ci q0 : Nat} {bytes : ByteArray} {ret' : Option FieldType} {As stk rest fs : List Value} {C' : String} {T' : u_T} {N' : Nat} {r : Option Value} {host : String}
theorem kz_callV (fx : FX X l0 G cc Ts y nL fr lo mc ms tb) (hc : HC G l0 y' ws' fr' lo' mc' ms' (.ref b :: As) wc P) (hne : ∀ E w', ¬ P (.inr E) w') (g : GoodIn Ts (wsV y.cls idx C' y' ws')) (hw : ws' = Cond.code y' bytes maxL ret' :: ws'')
    (hd : y'.cls = C' ∧ y'.cls ≠ "java/lang/invoke/MethodHandle" ∧ y'.cls ≠ "java/lang/invoke/VarHandle" ∧ (parseMethodDescriptor y'.desc).map (fun d => d.parameters.length) = some As.length) (hRo : fr' + 1 ≤ fr ∧ 8 + (maxL + 11) + lo' ≤ lo)
    (isC : List Nat) (hnd : va_nd isC = true) (hC : isC.map (fun i => w[i]?) = wc.map some) (hq : wc[q0]? = some (b, .inr (ci, fs))) (hcl : vwCl[ci]? = some (C', T', N')) (hst : stk = As.reverse ++ .ref b :: st) (hcat : (st.map fun v => v.category).sum ≤ 8) (d : decode cc pc = .ok (.invokevirtual idx, 3)) (hcs : cs + mc' ≤ mc) (hsl : sl + ms' ≤ ms)
    (kk : ∀ (r : Option Value) (w1 : va_W), P (.inl r) w1 → KK X G lv (pickW w (restI w isC) ++ w1) (cs + mc') (sl + ms') (pc + 3) (r.toList ++ st)) : KK X G lv w cs sl pc stk := by
  obtain ⟨p, l, e, R, s, m, args, below, meth, c, A, Q, nn⟩ := X
  obtain ⟨hx, hb, hml, rfl, hown, hts, hE, hA, hlocks, hname, hR, htb, hlt, rfl⟩ := fx
  intro H locs ls hP hD hS hl
  subst hR
  have hPc : va_P G.1 vwCl wc H := (kc_pre (As := As) hE hA hP hD hS isC hC hnd (U := { s with heap := H }) rfl (State.WarmedH.refl s)).2.2.1
  refine kc_core (va_runV (As := As) (rest := st) ⟨hx, hb, hml, hown, hts⟩ (hc.met hne H.size) (cwV As.length hts g hw rfl rfl hd hRo) ⟨PC_blind _ _ _ _, va_recv hE.1 hPc hcl hq, fun U hU hW => kc_pre hE hA hP hD hS isC hC hnd hU hW⟩ rfl rfl hl.1 hst (lv_room hcat) d ⟨hcs, hsl⟩) hP hD hS hA isC hC (fun r w1 h H1 locs1 hP1 hD1 hS1 => kk r w1 h H1 locs1 ls hP1 hD1 hS1 hl)
theorem kz_callS (fx : FX X l0 G cc Ts y nL fr lo mc ms tb) (hc : HC G l0 y' ws' fr' lo' mc' ms' As wc P) (hne : ∀ E w', ¬ P (.inr E) w') (g : GoodIn Ts (va_wsS y.cls idx y' ws')) (hw : ws' = Cond.code y' bytes maxL ret' :: ws'')
    (hd : y'.cls ≠ "java/lang/invoke/MethodHandle" ∧ y'.cls ≠ "java/lang/invoke/VarHandle" ∧ (parseMethodDescriptor y'.desc).map (fun d => d.parameters.length) = some As.length) (hRo : fr' + 1 ≤ fr ∧ 8 + (maxL + 11) + lo' ≤ lo)
    (isC : List Nat) (hnd : va_nd isC = true) (hC : isC.map (fun i => w[i]?) = wc.map some) (hst : stk = As.reverse ++ st) (hcat : (st.map fun v => v.category).sum ≤ 8) (d : decode cc pc = .ok (.invokestatic idx, 3)) (hcs : cs + mc' ≤ mc) (hsl : sl + ms' ≤ ms)
    (kk : ∀ (r : Option Value) (w1 : va_W), P (.inl r) w1 → KK X G lv (pickW w (restI w isC) ++ w1) (cs + mc') (sl + ms') (pc + 3) (r.toList ++ st)) : KK X G lv w cs sl pc stk := by
  obtain ⟨p, l, e, R, s, m, args, below, meth, c, A, Q, nn⟩ := X
  obtain ⟨hx, hb, hml, rfl, hown, hts, hE, hA, hlocks, hname, hR, htb, hlt, rfl⟩ := fx
  intro H locs ls hP hD hS hl
  subst hR
  refine kc_core (va_runS (As := As) (rest := st) ⟨hx, hb, hml, hown, hts⟩ (hc.met hne H.size) (va_cwS As.length hts g hw rfl rfl hd hRo) ⟨PC_blind _ _ _ _, fun U hU hW => kc_pre hE hA hP hD hS isC hC hnd hU hW⟩ rfl rfl hl.1 hst (lv_room hcat) d ⟨hcs, hsl⟩) hP hD hS hA isC hC (fun r w1 h H1 locs1 hP1 hD1 hS1 => kk r w1 h H1 locs1 ls hP1 hD1 hS1 hl)
theorem kz_callN (fx : FX X l0 G cc Ts y nL fr lo mc ms tb) (hc : HC G l0 y' ws' fr' lo' mc' ms' As wc P) (hne : ∀ E w', ¬ P (.inr E) w') (g : GoodIn Ts ws') (hw : ws' = Cond.code y' bytes maxL ret' :: ws'') (hnst : (y.cls, idx, y') ∈ nstL) (hini : Cond.initialized y'.cls ∈ Ts) (hsta : Cond.static y' ∈ Ts)
    (hd : y'.cls ≠ "java/lang/invoke/MethodHandle" ∧ y'.cls ≠ "java/lang/invoke/VarHandle" ∧ (parseMethodDescriptor y'.desc).map (fun d => d.parameters.length) = some As.length) (hRo : fr' + 1 ≤ fr ∧ 8 + (maxL + 11) + lo' ≤ lo)
    (isC : List Nat) (hnd : va_nd isC = true) (hC : isC.map (fun i => w[i]?) = wc.map some) (hst : stk = As.reverse ++ st) (hcat : (st.map fun v => v.category).sum ≤ 8) (d : decode cc pc = .ok (.invokestatic idx, 3)) (hcs : cs + mc' ≤ mc) (hsl : sl + ms' ≤ ms)
    (kk : ∀ (r : Option Value) (w1 : va_W), P (.inl r) w1 → KK X G lv (pickW w (restI w isC) ++ w1) (cs + mc') (sl + ms') (pc + 3) (r.toList ++ st)) : KK X G lv w cs sl pc stk := by
  obtain ⟨p, l, e, R, s, m, args, below, meth, c, A, Q, nn⟩ := X
  obtain ⟨hx, hb, hml, rfl, hown, hts, hE, hA, hlocks, hname, hR, htb, hlt, rfl⟩ := fx
  intro H locs ls hP hD hS hl
  subst hR
  refine kc_core (va_runSN (As := As) (rest := st) ⟨hx, hb, hml, hown, hts⟩ (hc.met hne H.size) ⟨va_cnB As.length hts g hw rfl rfl (hE.2.2.2.2.1 _ hnst) (hts _ hini) hd hRo, hts _ hsta, trivial⟩ ⟨PC_blind _ _ _ _, fun U hU hW => kc_pre hE hA hP hD hS isC hC hnd hU hW⟩ rfl rfl hl.1 hst (lv_room hcat) d ⟨hcs, hsl⟩) hP hD hS hA isC hC (fun r w1 h H1 locs1 hP1 hD1 hS1 => kk r w1 h H1 locs1 ls hP1 hD1 hS1 hl)
theorem kz_callI (fx : FX X l0 G cc Ts y nL fr lo mc ms tb) (hc : HC G l0 y' ws' fr' lo' mc' ms' (.ref b :: As) wc P) (hne : ∀ E w', ¬ P (.inr E) w') (g : GoodIn Ts ws') (hw : ws' = Cond.code y' bytes maxL none :: ws'') (hini : Cond.initialized y'.cls ∈ Ts) (hlink : Cond.methodLink y.cls idx y' ∈ Ts) (hins : Cond.instanceMethod y' ∈ Ts) (hy1 : y'.name = "<init>")
    (hd : y'.cls ≠ "java/lang/invoke/MethodHandle" ∧ y'.cls ≠ "java/lang/invoke/VarHandle" ∧ (parseMethodDescriptor y'.desc).map (fun d => d.parameters.length) = some As.length) (hRo : fr' + 1 ≤ fr ∧ 8 + (maxL + 11) + lo' ≤ lo)
    (isC : List Nat) (hnd : va_nd isC = true) (hC : isC.map (fun i => w[i]?) = wc.map some) (hst : stk = As.reverse ++ .ref b :: st) (hcat : (st.map fun v => v.category).sum ≤ 8) (d : decode cc pc = .ok (.invokespecial idx, 3)) (hcs : cs + mc' ≤ mc) (hsl : sl + ms' ≤ ms)
    (kk : ∀ (r : Option Value) (w1 : va_W), P (.inl r) w1 → KK X G lv (pickW w (restI w isC) ++ w1) (cs + mc') (sl + ms') (pc + 3) (r.toList ++ st)) : KK X G lv w cs sl pc stk := by
  obtain ⟨p, l, e, R, s, m, args, below, meth, c, A, Q, nn⟩ := X
  obtain ⟨hx, hb, hml, rfl, hown, hts, hE, hA, hlocks, hname, hR, htb, hlt, rfl⟩ := fx
  intro H locs ls hP hD hS hl
  subst hR
  refine kc_core (va_runI (As := As) (rest := st) ⟨hx, hb, hml, hown, hts⟩ (hc.met hne H.size) (cwI As.length hts g hw rfl rfl (hts _ hini) (hts _ hlink) (hts _ hins) hy1 hd hRo) ⟨PC_blind _ _ _ _, fun U hU hW => kc_pre hE hA hP hD hS isC hC hnd hU hW⟩ rfl rfl hl.1 hst (lv_room hcat) d ⟨hcs, hsl⟩) hP hD hS hA isC hC (fun r w1 h H1 locs1 hP1 hD1 hS1 => kk r w1 h H1 locs1 ls hP1 hD1 hS1 hl)
theorem kz_callIN (fx : FX X l0 G cc Ts y nL fr lo mc ms tb) (hc : HC G l0 y' ws' fr' lo' mc' ms' (.ref b :: As) wc P) (hne : ∀ E w', ¬ P (.inr E) w') (g : GoodIn Ts ws') (hw : ws' = Cond.code y' bytes maxL none :: ws'') (hnst : (y.cls, idx, y') ∈ nstL) (hini : Cond.initialized y'.cls ∈ Ts) (hins : Cond.instanceMethod y' ∈ Ts) (hy1 : y'.name = "<init>")
    (hd : y'.cls ≠ "java/lang/invoke/MethodHandle" ∧ y'.cls ≠ "java/lang/invoke/VarHandle" ∧ (parseMethodDescriptor y'.desc).map (fun d => d.parameters.length) = some As.length) (hRo : fr' + 1 ≤ fr ∧ 8 + (maxL + 11) + lo' ≤ lo)
    (isC : List Nat) (hnd : va_nd isC = true) (hC : isC.map (fun i => w[i]?) = wc.map some) (hst : stk = As.reverse ++ .ref b :: st) (hcat : (st.map fun v => v.category).sum ≤ 8) (d : decode cc pc = .ok (.invokespecial idx, 3)) (hcs : cs + mc' ≤ mc) (hsl : sl + ms' ≤ ms)
    (kk : ∀ (r : Option Value) (w1 : va_W), P (.inl r) w1 → KK X G lv (pickW w (restI w isC) ++ w1) (cs + mc') (sl + ms') (pc + 3) (r.toList ++ st)) : KK X G lv w cs sl pc stk := by
  obtain ⟨p, l, e, R, s, m, args, below, meth, c, A, Q, nn⟩ := X
  obtain ⟨hx, hb, hml, rfl, hown, hts, hE, hA, hlocks, hname, hR, htb, hlt, rfl⟩ := fx
  intro H locs ls hP hD hS hl
  subst hR
  refine kc_core (va_runIN (As := As) (rest := st) ⟨hx, hb, hml, hown, hts⟩ (hc.met hne H.size) ⟨va_cnB As.length hts g hw rfl rfl (hE.2.2.2.2.1 _ hnst) (hts _ hini) hd hRo, hy1, hts _ hins⟩ ⟨PC_blind _ _ _ _, fun U hU hW => kc_pre hE hA hP hD hS isC hC hnd hU hW⟩ rfl rfl hl.1 hst (lv_room hcat) d ⟨hcs, hsl⟩) hP hD hS hA isC hC (fun r w1 h H1 locs1 hP1 hD1 hS1 => kk r w1 h H1 locs1 ls hP1 hD1 hS1 hl)
/-- what one known answer gives -/
theorem kc_rt {is9 : List Nat} {isC : List Nat} {stk' : List Value} {k n : Nat} (hst2 : r.toList ++ st = stk') (hn9 : va_nd is9 = true) (hs9 : is9.map (fun i => (pickW w (restI w isC) ++ w1)[i]?) = w'.map some) (kk : KK X G lv w' k n (pc + 3) stk') : ∀ (r' : Option Value) (w1' : va_W), rt r w1 (.inl r') w1' → KK X G lv (pickW w (restI w isC) ++ w1') k n (pc + 3) (r'.toList ++ st) := by
  intro r' w1' h
  obtain ⟨h1, h2⟩ := h
  cases h1
  subst h2
  rw [hst2]
  exact KK.perm is9 hn9 hs9 kk
theorem rt_ne {r : Option Value} {w1 : va_W} : ∀ E w', ¬ rt r w1 (.inr E) w' := fun E w' h => by cases h.1
/-- a callee that may throw -/
theorem kz_callVX (fx : FX X l0 G cc Ts y nL fr lo mc ms tb) (hc : HC G l0 y' ws' fr' lo' mc' ms' (.ref b :: As) wc P) (g : GoodIn Ts (wsV y.cls idx C' y' ws')) (hw : ws' = Cond.code y' bytes maxL ret' :: ws'')
    (hd : y'.cls = C' ∧ y'.cls ≠ "java/lang/invoke/MethodHandle" ∧ y'.cls ≠ "java/lang/invoke/VarHandle" ∧ (parseMethodDescriptor y'.desc).map (fun d => d.parameters.length) = some As.length) (hRo : fr' + 1 ≤ fr ∧ 8 + (maxL + 11) + lo' ≤ lo)
    (isC : List Nat) (hnd : va_nd isC = true) (hC : isC.map (fun i => w[i]?) = wc.map some) (hq : wc[q0]? = some (b, .inr (ci, fs))) (hcl : vwCl[ci]? = some (C', T', N')) (hst : stk = As.reverse ++ .ref b :: st) (hcat : (st.map fun v => v.category).sum ≤ 8) (d : decode cc pc = .ok (.invokevirtual idx, 3)) (hcs : cs + mc' ≤ mc) (hsl : sl + ms' ≤ ms)
    (kx : ∀ (E : String) (w1 : va_W), P (.inr E) w1 → KT X G lv (pickW w (restI w isC) ++ w1) (cs + mc') (sl + ms') pc E)
    (kk : ∀ (r : Option Value) (w1 : va_W), P (.inl r) w1 → KK X G lv (pickW w (restI w isC) ++ w1) (cs + mc') (sl + ms') (pc + 3) (r.toList ++ st)) : KK X G lv w cs sl pc stk := by
  obtain ⟨p, l, e, R, s, m, args, below, meth, c, A, Q, nn⟩ := X
  obtain ⟨hx, hb, hml, rfl, hown, hts, hE, hA, hlocks, hname, hR, htb, hlt, rfl⟩ := fx
  intro H locs ls hP hD hS hl
  subst hR
  have hPc : va_P G.1 vwCl wc H := (kc_pre (As := As) hE hA hP hD hS isC hC hnd (U := { s with heap := H }) rfl (State.WarmedH.refl s)).2.2.1
  refine kc_coreX (vx_runV (As := As) (rest := st) ⟨hx, hb, hml, hown, hts⟩ (hc H.size) (cwV As.length hts g hw rfl rfl hd hRo) ⟨PC_blind _ _ _ _, va_recv hE.1 hPc hcl hq, fun U hU hW => kc_pre hE hA hP hD hS isC hC hnd hU hW⟩ rfl rfl hl.1 hst (lv_room hcat) d ⟨hcs, hsl⟩) hP hD hS hA isC hC (fun E w1 h H1 locs1 ce q hP1 hD1 hS1 h1 h2 h3 => kx E w1 h H1 locs1 ls ce q st hP1 hD1 hS1 hl h1 h2 h3) (fun r w1 h H1 locs1 hP1 hD1 hS1 => kk r w1 h H1 locs1 ls hP1 hD1 hS1 hl)
theorem kz_callSX (fx : FX X l0 G cc Ts y nL fr lo mc ms tb) (hc : HC G l0 y' ws' fr' lo' mc' ms' As wc P) (g : GoodIn Ts (va_wsS y.cls idx y' ws')) (hw : ws' = Cond.code y' bytes maxL ret' :: ws'')
    (hd : y'.cls ≠ "java/lang/invoke/MethodHandle" ∧ y'.cls ≠ "java/lang/invoke/VarHandle" ∧ (parseMethodDescriptor y'.desc).map (fun d => d.parameters.length) = some As.length) (hRo : fr' + 1 ≤ fr ∧ 8 + (maxL + 11) + lo' ≤ lo)
    (isC : List Nat) (hnd : va_nd isC = true) (hC : isC.map (fun i => w[i]?) = wc.map some) (hst : stk = As.reverse ++ st) (hcat : (st.map fun v => v.category).sum ≤ 8) (d : decode cc pc = .ok (.invokestatic idx, 3)) (hcs : cs + mc' ≤ mc) (hsl : sl + ms' ≤ ms)
    (kx : ∀ (E : String) (w1 : va_W), P (.inr E) w1 → KT X G lv (pickW w (restI w isC) ++ w1) (cs + mc') (sl + ms') pc E)
    (kk : ∀ (r : Option Value) (w1 : va_W), P (.inl r) w1 → KK X G lv (pickW w (restI w isC) ++ w1) (cs + mc') (sl + ms') (pc + 3) (r.toList ++ st)) : KK X G lv w cs sl pc stk := by
  obtain ⟨p, l, e, R, s, m, args, below, meth, c, A, Q, nn⟩ := X
  obtain ⟨hx, hb, hml, rfl, hown, hts, hE, hA, hlocks, hname, hR, htb, hlt, rfl⟩ := fx
  intro H locs ls hP hD hS hl
  subst hR
  refine kc_coreX (vx_runS (As := As) (rest := st) ⟨hx, hb, hml, hown, hts⟩ (hc H.size) (va_cwS As.length hts g hw rfl rfl hd hRo) ⟨PC_blind _ _ _ _, fun U hU hW => kc_pre hE hA hP hD hS isC hC hnd hU hW⟩ rfl rfl hl.1 hst (lv_room hcat) d ⟨hcs, hsl⟩) hP hD hS hA isC hC (fun E w1 h H1 locs1 ce q hP1 hD1 hS1 h1 h2 h3 => kx E w1 h H1 locs1 ls ce q st hP1 hD1 hS1 hl h1 h2 h3) (fun r w1 h H1 locs1 hP1 hD1 hS1 => kk r w1 h H1 locs1 ls hP1 hD1 hS1 hl)
/-- a callee with a table of handlers (the law's own calls): it returns -/
theorem kz_callSW (fx : FX X l0 G cc Ts y nL fr lo mc ms tb) {hh : List (Nat × Nat × Nat × Nat)} (hc : HC G l0 y' ws' fr' lo' mc' ms' As wc P) (hne : ∀ E w', ¬ P (.inr E) w') (g : GoodIn Ts (va_wsS y.cls idx y' ws')) (hw : ws' = Cond.codeWith y' bytes maxL ret' hh :: ws'')
    (hd : y'.cls ≠ "java/lang/invoke/MethodHandle" ∧ y'.cls ≠ "java/lang/invoke/VarHandle" ∧ (parseMethodDescriptor y'.desc).map (fun d => d.parameters.length) = some As.length) (hRo : fr' + 1 ≤ fr ∧ 8 + (maxL + 11) + lo' ≤ lo)
    (isC : List Nat) (hnd : va_nd isC = true) (hC : isC.map (fun i => w[i]?) = wc.map some) (hst : stk = As.reverse ++ st) (hcat : (st.map fun v => v.category).sum ≤ 8) (d : decode cc pc = .ok (.invokestatic idx, 3)) (hcs : cs + mc' ≤ mc) (hsl : sl + ms' ≤ ms)
    (kk : ∀ (r : Option Value) (w1 : va_W), P (.inl r) w1 → KK X G lv (pickW w (restI w isC) ++ w1) (cs + mc') (sl + ms') (pc + 3) (r.toList ++ st)) : KK X G lv w cs sl pc stk := by
  obtain ⟨p, l, e, R, s, m, args, below, meth, c, A, Q, nn⟩ := X
  obtain ⟨hx, hb, hml, rfl, hown, hts, hE, hA, hlocks, hname, hR, htb, hlt, rfl⟩ := fx
  intro H locs ls hP hD hS hl
  subst hR
  refine kc_core (vx_runSW (As := As) (rest := st) ⟨hx, hb, hml, hown, hts⟩ (hc.met hne H.size) (vx_cwSW As.length hts g hw rfl rfl hd hRo) ⟨PC_blind _ _ _ _, fun U hU hW => kc_pre hE hA hP hD hS isC hC hnd hU hW⟩ rfl rfl hl.1 hst (lv_room hcat) d ⟨hcs, hsl⟩) hP hD hS hA isC hC (fun r w1 h H1 locs1 hP1 hD1 hS1 => kk r w1 h H1 locs1 ls hP1 hD1 hS1 hl)
/-- an exception leaves the method -/
theorem kz_out (fx : FX X l0 G cc Ts y nL fr lo mc ms []) (rx : RX X G ret P mc ms) {E : String} (hc : cs ≤ mc) (hs : sl ≤ ms) (hq : P (.inr E) w) : KT X G lv w cs sl pc E := by
  obtain ⟨p, l, e, R, s, m, args, below, meth, c, A, Q, nn⟩ := X
  obtain ⟨hx, hb, hml, rfl, hown, hts, hE, hA, hlocks, hname, hR, htb, hlt, rfl⟩ := fx
  intro H locs ls ce q st hP hD hS hl h1 h2 h3
  obtain ⟨hr, rfl⟩ := rx
  exact vx_out (fun x hx => by rw [htb] at hx; cases hx) hlocks h1 h2 h3 (fun t ht hal => ⟨⟨w, hq, by rw [ht]; exact hP, hD⟩, hS.F ht⟩) hS.2.2 hc hs
/-- all that is asked of a class of exceptions, once a class -/
def EXK (E : String) (ik ic ix : Nat) (rb : ByteArray) : Prop :=
  (decode rb 0 = .ok (.aload_n 0, 1) ∧ decode rb 1 = .ok (.aload_n 1, 1) ∧ decode rb 2 = .ok (.invokespecial ix, 3) ∧ decode rb 5 = .ok (.return_, 1)) ∧ Bundle.fit E = true ∧ Cond.classLink "Statusboard" ik E ∈ wsU ∧ Cond.initialized E ∈ wsU ∧ E ∈ EXL ∧
  (∀ u ∈ ((zxA "Statusboard" ic E ix rb).filter vx_no).filter goodWord, u ∈ wsU) ∧ (∀ u ∈ ((zxA "Statusboard" ic E ix rb).filter vx_no).filter (fun w => !goodWord w), u ∈ BLx E) ∧
  ∀ u ∈ Cond.classLink "Statusboard" ik E :: Cond.initialized E :: (zxA "Statusboard" ic E ix rb).filter vx_no, vx_ot u = true
theorem kz_blx {G : GX} {A : Nat → Prop} {s : State} {H : Heap} {args : Array Value} {E : String} (hE : ENV G A s H) (hx : E ∈ EXL) : ∀ u ∈ BLx E, u.before args s = true := by
  have h1 := va_Nw.use (A := args) rfl (hE.2.2.2.2.2.1 E hx)
  have h2 := hE.2.2.2.2.2.2.1
  exact vx_c h1 (vx_c (va_Nw.use rfl (h2 _ (List.mem_of_getElem? (i := 0) rfl))) (vx_c (va_Nw.use rfl (h2 _ (List.mem_of_getElem? (i := 1) rfl))) (vx_c (va_Nw.use rfl (h2 _ (List.mem_of_getElem? (i := 2) rfl))) vx_n)))
/-- throw new E(text) -/
theorem kz_throw {c0 : Cond} (fx : FX X l0 G cc (c0 :: wsU) y nL fr lo mc ms []) (rx : RX X G ret P mc ms) {E text : String} {ik ist ic ix : Nat} {rb : ByteArray} (hk : EXK E ik ic ix rb) (hyc : y.cls = "Statusboard") (hstr : (ist, text) ∈ strL)
    (d0 : decode cc pc = .ok (.new ik, 3)) (d3 : decode cc (pc + 3) = .ok (.dup, 1)) (d4 : decode cc (pc + 4) = .ok (.ldc ist, 2)) (d6 : decode cc (pc + 6) = .ok (.invokespecial ic, 3)) (d9 : decode cc (pc + 9) = .ok (.athrow, 1))
    (hRf : 5 < fr) (hRl : (st.map fun v => v.category).sum + 82 ≤ lo) (hc : cs + 1 ≤ mc) (hs : sl + 6 ≤ ms) (hq : P (.inr E) w) : KK X G lv w cs sl pc st := by
  obtain ⟨p, l, e, R, s, m, args, below, meth, c, A, Q, nn⟩ := X
  obtain ⟨hx, hb, hml, rfl, hown, hts, hE, hA, hlocks, hname, hR, htb, hlt, rfl⟩ := fx
  intro H locs ls hP hD hS hl
  obtain ⟨hr, rfl⟩ := rx
  subst hR
  obtain ⟨⟨x0, x1, x2, x5⟩, k1, k2, k3, k4, k5, k6, k7⟩ := hk
  obtain ⟨sa, hsa⟩ := hE.2.2.2.1 _ hstr
  have hown' : s.vm.findClass "Statusboard" = some m.cls := by rw [← hyc]; exact hown
  have hw9 : ∀ u ∈ wsU, u.before args s = true := fun u hu => hts u (List.mem_cons_of_mem _ hu)
  refine zx_make hx hb hlt x0 x1 x2 x5 hown' k1 (hw9 _ k2) (hw9 _ k3) hsa (vx_hat (fun u hu => hw9 _ (k5 u hu)) k6 (kz_blx hE k4)) k7 hE.2.1 hE.2.2.1 hS (hl.1.trans hml.symm) d0 d3 d4 d6 hRf hRl (Nat.le_trans hc (Nat.le_refl _)) (Nat.le_trans hs (Nat.le_refl _)) (fun q H1 ce f1 f2 f3 f4 f5 => ?_)
  refine zx_athrow hx hb d9 ?_
  exact vx_out (fun x hx => by rw [htb] at hx; cases hx) hlocks f3 f4 f5 (fun t ht hal => ⟨⟨w, hq, by rw [ht]; exact hP.kept (fun k q hk => f2 _ ((hP k q hk).lt)), hD⟩, ⟨by rw [ht]; exact Nat.le_trans hS.1 f1, fun q h1 h2 => by rw [ht]; exact (f2 q (Nat.lt_of_lt_of_le h1 hS.1)).trans (hS.2.1 q h1 h2)⟩⟩) hS.2.2 hc hs
/-- throw new E(text), its text by ldc_w -/
theorem kz_throwW {c0 : Cond} (fx : FX X l0 G cc (c0 :: wsU) y nL fr lo mc ms []) (rx : RX X G ret P mc ms) {E text : String} {ik ist ic ix : Nat} {rb : ByteArray} (hk : EXK E ik ic ix rb) (hyc : y.cls = "Statusboard") (hstr : (ist, text) ∈ strL)
    (d0 : decode cc pc = .ok (.new ik, 3)) (d3 : decode cc (pc + 3) = .ok (.dup, 1)) (d4 : decode cc (pc + 4) = .ok (.ldc_w ist, 3)) (d6 : decode cc (pc + 7) = .ok (.invokespecial ic, 3)) (d9 : decode cc (pc + 10) = .ok (.athrow, 1))
    (hRf : 5 < fr) (hRl : (st.map fun v => v.category).sum + 82 ≤ lo) (hc : cs + 1 ≤ mc) (hs : sl + 6 ≤ ms) (hq : P (.inr E) w) : KK X G lv w cs sl pc st := by
  obtain ⟨p, l, e, R, s, m, args, below, meth, c, A, Q, nn⟩ := X
  obtain ⟨hx, hb, hml, rfl, hown, hts, hE, hA, hlocks, hname, hR, htb, hlt, rfl⟩ := fx
  intro H locs ls hP hD hS hl
  obtain ⟨hr, rfl⟩ := rx
  subst hR
  obtain ⟨⟨x0, x1, x2, x5⟩, k1, k2, k3, k4, k5, k6, k7⟩ := hk
  obtain ⟨sa, hsa⟩ := hE.2.2.2.1 _ hstr
  have hown' : s.vm.findClass "Statusboard" = some m.cls := by rw [← hyc]; exact hown
  have hw9 : ∀ u ∈ wsU, u.before args s = true := fun u hu => hts u (List.mem_cons_of_mem _ hu)
  refine zx_makeW hx hb hlt x0 x1 x2 x5 hown' k1 (hw9 _ k2) (hw9 _ k3) hsa (vx_hat (fun u hu => hw9 _ (k5 u hu)) k6 (kz_blx hE k4)) k7 hE.2.1 hE.2.2.1 hS (hl.1.trans hml.symm) d0 d3 d4 d6 hRf hRl (Nat.le_trans hc (Nat.le_refl _)) (Nat.le_trans hs (Nat.le_refl _)) (fun q H1 ce f1 f2 f3 f4 f5 => ?_)
  refine zx_athrow hx hb d9 ?_
  exact vx_out (fun x hx => by rw [htb] at hx; cases hx) hlocks f3 f4 f5 (fun t ht hal => ⟨⟨w, hq, by rw [ht]; exact hP.kept (fun k q hk => f2 _ ((hP k q hk).lt)), hD⟩, ⟨by rw [ht]; exact Nat.le_trans hS.1 f1, fun q h1 h2 => by rw [ht]; exact (f2 q (Nat.lt_of_lt_of_le h1 hS.1)).trans (hS.2.1 q h1 h2)⟩⟩) hS.2.2 hc hs
end KC
