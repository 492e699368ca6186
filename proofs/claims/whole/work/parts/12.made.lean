/-! WHAT IS MADE: a new object, a new array, a copy of an array. -/
section KM
variable {X : CX} {l0 : Launch} {G : GX} {cc : ByteArray} {Ts : List Cond} {y : MethodName} {nL fr lo mc ms : Nat} {tb : List ExceptionTableEntry} {lv lv' : List (Nat × Value)} {w w' : va_W} {cs sl pc : Nat} {st : List Value} {P : OC → va_W → Prop} {ret : Option FieldType}
theorem kz_new (fx : FX X l0 G cc Ts y nL fr lo mc ms tb) {C : String} {T : u_T} {N ci index : Nat} {fs : List Value} {tyF : Nat → FieldType} (hin : ∀ u ∈ u_ws C T N, u ∈ Ts) (hty : ∀ k, k < N → parseFieldDescriptor (T k).2.2.1 = some (tyF k)) (h1 : Cond.classLink y.cls index C ∈ Ts) (h2 : Cond.instantiable C N ∈ Ts) (h3 : Cond.initialized C ∈ Ts) (hc : vwCl[ci]? = some (C, T, N)) (hfs : ∀ j, j < N → defaultValue (tyF j) = vp_V fs j) (d : decode cc pc = .ok (.new index, 3)) (hcs : cs + 1 ≤ mc) (hsl : sl + N ≤ ms)
    (kk : ∀ q : Nat, KK X G lv (w ++ [(q, .inr (ci, fs))]) (cs + 1) (sl + N) (pc + 3) (.ref q :: st)) : KK X G lv w cs sl pc st := by
  obtain ⟨p, l, e, R, s, m, args, below, meth, c, A, Q, nn⟩ := X
  obtain ⟨hx, hb, hml, rfl, hown, hts, hE, hA, hlocks, hname, hR, htb, hlt, rfl⟩ := fx
  intro H locs ls hP hD hS hl
  subst hR
  exact va_new hx hb hts hin tyF hty hown (hts _ h1) (hts _ h2) (hts _ h3) hE.1 hP hD hS hA hc hfs hcs hsl d (fun q H1 hP1 hD1 hS1 => kk q H1 locs ls hP1 hD1 hS1 hl)
theorem kz_newi (fx : FX X l0 G cc Ts y nL fr lo mc ms tb) {z : Int} {n : Nat} (hz : z = (n : Int)) (hn : n < 65536) (h1 : Cond.arrayClass .int ∈ Ts) (d : decode cc pc = .ok (.newarray .int, 2)) (hcs : cs + 1 ≤ mc) (hsl : sl + n ≤ ms)
    (kk : ∀ q : Nat, KK X G lv (w ++ [(q, cI G n (fun _ => 0))]) (cs + 1) (sl + n) (pc + 2) (.ref q :: st)) : KK X G lv w cs sl pc (.int (iI z) :: st) := by
  subst hz
  obtain ⟨p, l, e, R, s, m, args, below, meth, c, A, Q, nn⟩ := X
  obtain ⟨hx, hb, hml, rfl, hown, hts, hE, hA, hlocks, hname, hR, htb, hlt, rfl⟩ := fx
  intro H locs ls hP hD hS hl
  subst hR
  have e : (iI (n : Int)).toNatClampNeg = n := by rw [iI_cl (by omega) (by omega)]; rfl
  have e0 : ¬ iI (n : Int) < 0 := by rw [← iI_0, iI_lt ⟨by omega, by omega⟩ rg0]; omega
  refine va_newa hx hb (atype := .int) (ty := .int) (N' := n) (a0 := (n, .inl (fun _ => iI 0))) (hts _ h1) rfl hE.1 hP hD hS hA (fun cA => ?_) e0 e ?_ hcs hsl d (fun q cA H1 hK1 hP1 hD1 hS1 => ?_)
  · rw [vp_cell_i]; rfl
  · show n * 4 ≤ _; omega
  · have h4 := (hK1.2 4 (cA, .int) rfl).2
    have h5 := (hE.1.2 0 (G.2.1, .int) rfl).2
    have h6 : cA = G.2.1 := Option.some.inj (h4.symm.trans h5)
    subst h6
    exact kk q H1 locs ls hP1 hD1 hS1 hl
theorem kz_newc (fx : FX X l0 G cc Ts y nL fr lo mc ms tb) {z : Int} {n : Nat} (hz : z = (n : Int)) (hn : n < 65536) (h1 : Cond.arrayClass .char ∈ Ts) (d : decode cc pc = .ok (.newarray .char, 2)) (hcs : cs + 1 ≤ mc) (hsl : sl + n ≤ ms)
    (kk : ∀ q : Nat, KK X G lv (w ++ [(q, cC G n (fun _ => 0))]) (cs + 1) (sl + n) (pc + 2) (.ref q :: st)) : KK X G lv w cs sl pc (.int (iI z) :: st) := by
  subst hz
  obtain ⟨p, l, e, R, s, m, args, below, meth, c, A, Q, nn⟩ := X
  obtain ⟨hx, hb, hml, rfl, hown, hts, hE, hA, hlocks, hname, hR, htb, hlt, rfl⟩ := fx
  intro H locs ls hP hD hS hl
  subst hR
  have e : (iI (n : Int)).toNatClampNeg = n := by rw [iI_cl (by omega) (by omega)]; rfl
  have e0 : ¬ iI (n : Int) < 0 := by rw [← iI_0, iI_lt ⟨by omega, by omega⟩ rg0]; omega
  refine va_newa hx hb (atype := .char) (ty := .char) (N' := n) (a0 := (n, .inl (fun _ => iI 0))) (hts _ h1) rfl hE.1 hP hD hS hA (fun cA => ?_) e0 e ?_ hcs hsl d (fun q cA H1 hK1 hP1 hD1 hS1 => ?_)
  · rw [vp_cell_i]; rfl
  · show n * 2 ≤ _; omega
  · have h4 := (hK1.2 4 (cA, .char) rfl).2
    have h5 := (hE.1.2 1 (G.2.2.1, .char) rfl).2
    have h6 : cA = G.2.2.1 := Option.some.inj (h4.symm.trans h5)
    subst h6
    exact kk q H1 locs ls hP1 hD1 hS1 hl
theorem kz_newl (fx : FX X l0 G cc Ts y nL fr lo mc ms tb) (h1 : Cond.arrayClass .long ∈ Ts) (d : decode cc pc = .ok (.newarray .long, 2)) (hcs : cs + 1 ≤ mc) (hsl : sl + 1 ≤ ms)
    (kk : ∀ q : Nat, KK X G lv (w ++ [(q, cL G 1 (fun _ => 0))]) (cs + 1) (sl + 1) (pc + 2) (.ref q :: st)) : KK X G lv w cs sl pc (.int (iI 1) :: st) := by
  obtain ⟨p, l, e, R, s, m, args, below, meth, c, A, Q, nn⟩ := X
  obtain ⟨hx, hb, hml, rfl, hown, hts, hE, hA, hlocks, hname, hR, htb, hlt, rfl⟩ := fx
  intro H locs ls hP hD hS hl
  subst hR
  refine va_newa hx hb (atype := .long) (ty := .long) (N' := 1) (a0 := (1, .inr (.inl (fun _ => 0)))) (hts _ h1) rfl hE.1 hP hD hS hA (fun cA => ?_) (by decide +kernel) (by decide +kernel) (by decide) hcs hsl d (fun q cA H1 hK1 hP1 hD1 hS1 => ?_)
  · rw [vp_cell_l]; rfl
  · have h4 := (hK1.2 4 (cA, .long) rfl).2
    have h5 := (hE.1.2 2 (G.2.2.2.1, .long) rfl).2
    have h6 : cA = G.2.2.2.1 := Option.some.inj (h4.symm.trans h5)
    subst h6
    exact kk q H1 locs ls hP1 hD1 hS1 hl
theorem kz_newd (fx : FX X l0 G cc Ts y nL fr lo mc ms tb) (h1 : Cond.arrayClass .double ∈ Ts) (d : decode cc pc = .ok (.newarray .double, 2)) (hcs : cs + 1 ≤ mc) (hsl : sl + 1 ≤ ms)
    (kk : ∀ q : Nat, KK X G lv (w ++ [(q, cD G 1 (fun _ => 0))]) (cs + 1) (sl + 1) (pc + 2) (.ref q :: st)) : KK X G lv w cs sl pc (.int (iI 1) :: st) := by
  obtain ⟨p, l, e, R, s, m, args, below, meth, c, A, Q, nn⟩ := X
  obtain ⟨hx, hb, hml, rfl, hown, hts, hE, hA, hlocks, hname, hR, htb, hlt, rfl⟩ := fx
  intro H locs ls hP hD hS hl
  subst hR
  refine va_newa hx hb (atype := .double) (ty := .double) (N' := 1) (a0 := (1, .inr (.inr (.inr (.inl (fun _ => 0)))))) (hts _ h1) rfl hE.1 hP hD hS hA (fun cA => ?_) (by decide +kernel) (by decide +kernel) (by decide) hcs hsl d (fun q cA H1 hK1 hP1 hD1 hS1 => ?_)
  · rw [vp_cell_d]; rfl
  · have h4 := (hK1.2 4 (cA, .double) rfl).2
    have h5 := (hE.1.2 3 (G.2.2.2.2, .double) rfl).2
    have h6 : cA = G.2.2.2.2 := Option.some.inj (h4.symm.trans h5)
    subst h6
    exact kk q H1 locs ls hP1 hD1 hS1 hl
/-- the first k of one array to the beginning of another -/
theorem kz_copy (fx : FX X l0 G cc Ts y nL fr lo mc ms tb) {a0 a1 n0 n1 k : Nat} {f g : Nat → Int} {z : Int} {index : Nat} (q0 q1 : Nat) (ha0 : w[q0]? = some (a0, cI G n0 f)) (ha1 : w[q1]? = some (a1, cI G n1 g)) (hz : z = (k : Int)) (hk0 : k ≤ n0) (hk1 : k ≤ n1) (hk2 : k < 65536) (h1 : Cond.methodLink y.cls index arraycopyName ∈ Ts) (h2 : Cond.native arraycopyName ∈ Ts) (h3 : Cond.static arraycopyName ∈ Ts) (h4 : Cond.initialized "java/lang/System" ∈ Ts)
    (hfr : 1 ≤ fr) (hlo : (st.map fun v => v.category).sum + (nativeFrameWords "java/lang/System" "arraycopy" 5 + 11) ≤ lo) (d : decode cc pc = .ok (.invokestatic index, 3)) (hw : w.set q1 (a1, cI G n1 (fun j => if j < k then f j else g j)) = w') (kk : KK X G lv w' cs sl (pc + 3) st) : KK X G lv w cs sl pc (.int (iI z) :: .int (iI 0) :: .ref a1 :: .int (iI 0) :: .ref a0 :: st) := by
  subst hz
  obtain ⟨p, l, e, R, s, m, args, below, meth, c, A, Q, nn⟩ := X
  obtain ⟨hx, hb, hml, rfl, hown, hts, hE, hA, hlocks, hname, hR, htb, hlt, rfl⟩ := fx
  intro H locs ls hP hD hS hl
  subst hR
  have e : (iI (k : Int)).toNatClampNeg = k := by rw [iI_cl (by omega) (by omega)]; rfl
  have e9 : (iI 0).toNatClampNeg = 0 := by decide +kernel
  have e0 : ¬ iI (k : Int) < 0 := by rw [← iI_0, iI_lt ⟨by omega, by omega⟩ rg0]; omega
  refine va_copyi hx hb (hl.1.trans hml.symm).symm hown (hts _ h1) (hts _ h2) (hts _ h3) (hts _ h4) hE.1 hP hD hS q0 q1 0 0 (f := fun j => iI (f j)) (g := fun j => iI (g j)) (ty := .int) ha0 ha1 rfl rfl rfl (by decide +kernel) (by decide +kernel) e0 (by rw [e, e9]; omega) (by rw [e, e9]; omega) (fun i hi => rfl) hfr hlo d (fun H1 locs1 hP1 hD1 hS1 => ?_)
  rw [e, e9] at hP1 hD1
  have hf : va_cpy (fun j => iI (f j)) (fun j => iI (g j)) 0 0 k = fun j => iI (if j < k then f j else g j) := by
    funext j
    unfold va_cpy
    by_cases hj : j < k
    · rw [if_pos ⟨by omega, by omega⟩, if_pos hj, show 0 + (j - 0) = j by omega]
    · rw [if_neg (by omega), if_neg hj]
  rw [hf] at hP1 hD1
  rw [show w.set q1 (a1, .inl (G.2.1, n1, .inl (fun j => iI (if j < k then f j else g j)))) = w' from hw] at hP1 hD1
  exact kk H1 locs1 ls hP1 hD1 hS1 hl
/-- what is on top may stand otherwise -/
theorem zup_nz (f : Nat → Nat) (k v : Nat) : zup (nz f) k ((v : Nat) : Int) = nz (fun j => if j = k then v else f j) := by
  funext j
  by_cases h : j = k
  · subst h; rw [zup_s]; simp [nz]
  · rw [zup_n h]; simp [nz, h]
def zuN (f : Nat → Nat) (k v : Nat) : Nat → Nat := fun j => if j = k then v else f j
theorem zu_nz (f : Nat → Nat) (k v : Nat) : zup (nz f) k ((v : Nat) : Int) = nz (zuN f k v) := zup_nz f k v
theorem oi {a b : Int} (h : a = b) : (Sum.inl (some (Value.int (iI a))) : OC) = .inl (some (.int (iI b))) := by rw [h]
theorem ob {a b : Bool} (h : a = b) : (Sum.inl (some (Value.int (iI (bI a)))) : OC) = .inl (some (.int (iI (bI b)))) := by rw [h]
theorem nwf_X0 : ∀ j, j < 6 → defaultValue (tyX0 j) = vp_V [.int (iI (0)), .null, .null, .null, .null, .null] j := by decide +kernel
theorem nwf_X1 : ∀ j, j < 4 → defaultValue (tyX1 j) = vp_V [.null, .null, .null, .null] j := by decide +kernel
theorem nwf_X2 : ∀ j, j < 2 → defaultValue (tyX2 j) = vp_V [.int (iI (0)), .null] j := by decide +kernel
theorem nwf_X3 : ∀ j, j < 4 → defaultValue (tyX3 j) = vp_V [.int (iI (0)), .null, .null, .null] j := by decide +kernel
theorem nwf_X4 : ∀ j, j < 3 → defaultValue (tyX4 j) = vp_V [.int (iI (0)), .null, .null] j := by decide +kernel
theorem nwf_X5 : ∀ j, j < 6 → defaultValue (tyX5 j) = vp_V [.int (iI (0)), .null, .null, .null, .null, .null] j := by decide +kernel
theorem nwf_X6 : ∀ j, j < 8 → defaultValue (tyX6 j) = vp_V [.null, .null, .null, .null, .null, .null, .null, .int (iI (0))] j := by decide +kernel
theorem nwf_X7 : ∀ j, j < 27 → defaultValue (tyX7 j) = vp_V [.int (iI (0)), .null, .null, .null, .null, .null, .null, .null, .null, .null, .null, .null, .int (iI (0)), .int (iI (0)), .int (iI (0)), .int (iI (0)), .null, .null, .null, .null, .null, .null, .null, .int (iI (0)), .int (iI (0)), .null, .int (iI (0))] j := by decide +kernel
theorem KK.st0 {v v' : Int} (h : v = v') (kk : KK X G lv w cs sl pc (.int (iI v') :: st)) : KK X G lv w cs sl pc (.int (iI v) :: st) := h ▸ kk
end KM
