/-! THE LAW: handlers, the script, floats. -/
section LWA
theorem fl_f {a b : Int} (hb : rg b) (h : b ≠ 0) : FP.Core.fIsNaN (FP.fdiv (FP.i2f (iI a)) (FP.i2f (iI b))) = false := by
  refine FP.Core.fdiv_out ((FP.Core.notNaN_iff32 _).mpr (FP.Core.i2f_fin _).ne_nan) (FP.Core.i2f_fin _) (fun hz => ?_)
  exact FP.Core.i2f_ne_zero (iI_ne0 hb h) ((FP.Core.zero_bits232 _).mp hz)
theorem fl_d {a b : Int} (hb : rg b) (h : b ≠ 0) : FP.Core.dIsNaN (FP.ddiv (FP.i2d (iI a)) (FP.i2d (iI b))) = false := by
  refine FP.Core.ddiv_out ((FP.Core.notNaN_iff _).mpr ?_) (FP.Core.i2d_fin _) (fun hz => ?_)
  · obtain ⟨s, c, q, h⟩ := FP.Core.i2d_fin (iI a)
    intro e
    have e2 : FP.Core.val64 (FP.Core.i2d (iI a)) = .nan := e
    rw [h] at e2; cases e2
  · exact FP.Core.i2d_ne_zero (iI_ne0 hb h) ((FP.Core.zero_bits2 _).mp hz)
theorem fl_2 {r : UInt32} (h : FP.Core.fIsNaN r = false) : FP.Core.dIsNaN (FP.f2d r) = false := (FP.f2d_nan r).trans h
theorem fl_n {r : UInt32} (h : FP.Core.fIsNaN r = false) : vf_n64 (FP.f2d r) := nb64 (fl_2 h)
theorem fl_c {x : UInt64} (h : FP.Core.dIsNaN x = false) (op : CmpOp) : Op.cmpValue (FP.dcmp x x) op = iI 0 := by
  have h2 : FP.dcmp x x = some .eq := FP.Core.dcmp_refl h
  rw [h2]
  cases op <;> decide +kernel
theorem lc_0 (x : Int64) : lg_cmp x x = iI 0 := by
  unfold lg_cmp; simp <;> decide +kernel
variable {X : CX} {l0 : Launch} {G : GX} {cc : ByteArray} {Ts : List Cond} {y : MethodName} {nL fr lo mc ms : Nat} {tb : List ExceptionTableEntry} {lv lv' : List (Nat × Value)} {w w' : va_W} {cs sl pc : Nat} {st : List Value} {P : OC → va_W → Prop} {ret : Option FieldType}
theorem kz_i2lr (fx : FX X l0 G cc Ts y nL fr lo mc ms tb) {x : Int32} (d : decode cc pc = .ok (.i2l, 1)) (kk : KK X G lv w cs sl (pc + 1) (.long x.toInt64 :: st)) : KK X G lv w cs sl pc (.int x :: st) := by
  obtain ⟨p, l, e, R, s, m, args, below, meth, c, A, Q, nn⟩ := X
  obtain ⟨hx, hb, hml, rfl, hown, hts, hE, hA, hlocks, hname, hR, htb, hlt, rfl⟩ := fx
  intro H locs ls hP hD hS hl
  exact lv_i2l hx hb d rfl (kk H locs ls hP hD hS hl)
theorem kz_catch {c0 : Cond} (fx : FX X l0 G cc (c0 :: wsU) y nL fr lo mc ms tb) {E : String} (pre : List ExceptionTableEntry) (x9 : ExceptionTableEntry) (suf : List ExceptionTableEntry) (htb9 : tb = pre ++ x9 :: suf) (hE9 : E ∈ EXL)
    (hpass : ∀ z ∈ pre, covers z pc = false ∨ (z.catchType ≠ 0 ∧ ∃ nm : String, Cond.classLink y.cls z.catchType nm ∈ wsU ∧ nm ∈ EXL ∧ E ≠ nm)) (hx9 : covers x9 pc = true) (h0 : x9.catchType ≠ 0) (hl9 : Cond.classLink y.cls x9.catchType E ∈ wsU)
    (kk : ∀ q : Nat, KK X G lv w cs sl x9.handlerPc [.ref q]) : KT X G lv w cs sl pc E := by
  obtain ⟨p, l, e, R, s, m, args, below, meth, c, A, Q, nn⟩ := X
  obtain ⟨hx, hb, hml, rfl, hown, hts, hE, hA, hlocks, hname, hR, htb, hlt, rfl⟩ := fx
  intro H locs ls ce q st hP hD hS hl h1 h2 h3
  exact vx_catch hown pre x9 suf (htb.trans htb9) (fun z hz => by
    rcases hpass z hz with h | ⟨a, nm, b, c, d⟩
    · exact Or.inl h
    · exact Or.inr ⟨a, nm, hts _ (List.mem_cons_of_mem _ b), hE.2.2.2.2.2.2.2 E hE9 nm c d⟩) hx9 h0 (hts _ (List.mem_cons_of_mem _ hl9)) (va_Nw.use rfl (hE.2.2.2.2.2.1 E hE9)) h1 h2 h3 (kk q H locs ls hP hD hS hl)
/-- the script -/
def SX (X : CX) (b L : Nat) (xs : Nat → Int32) : Prop :=
  match X with
  | (_, _, _, _, s, _, _, _, _, _, A, _, _) => va_X b L xs s s.heap ∧ b < s.heap.size ∧ ¬ A b
theorem kz_sld (fx : FX X l0 G cc Ts y nL fr lo mc ms tb) {b L : Nat} {xs : Nat → Int32} (sx : SX X b L xs) {z : Int} {v : Int32} (hL : L ≤ 2048) (hz : 0 ≤ z ∧ z < L) (hv : xs z.toNat = v) (d : decode cc pc = .ok (.iaload, 1)) (kk : KK X G lv w cs sl (pc + 1) (.int v :: st)) : KK X G lv w cs sl pc (.int (iI z) :: .ref b :: st) := by
  obtain ⟨p, l, e, R, s, m, args, below, meth, c, A, Q, nn⟩ := X
  obtain ⟨hx, hb, hml, rfl, hown, hts, hE, hA, hlocks, hname, hR, htb, hlt, rfl⟩ := fx
  obtain ⟨s1, s2, s3⟩ := sx
  intro H locs ls hP hD hS hl
  obtain ⟨k, rfl⟩ : ∃ k : Nat, z = ((k : Nat) : Int) := ⟨z.toNat, by omega⟩
  refine va_sld hx hb s1 s2 s3 hS (iI_in (by omega) (by omega) (by omega)) d ?_
  have e9 : (iI ((k : Nat) : Int)).toNatClampNeg = k := by rw [iI_cl (by omega) (by omega)]; rfl
  rw [show ((k : Nat) : Int).toNat = k from rfl] at hv
  rw [e9, hv]
  exact kk H locs ls hP hD hS hl
theorem kz_slen (fx : FX X l0 G cc Ts y nL fr lo mc ms tb) {b L : Nat} {xs : Nat → Int32} (sx : SX X b L xs) (d : decode cc pc = .ok (.arraylength, 1)) (kk : KK X G lv w cs sl (pc + 1) (.int (iI ((L : Nat) : Int)) :: st)) : KK X G lv w cs sl pc (.ref b :: st) := by
  obtain ⟨p, l, e, R, s, m, args, below, meth, c, A, Q, nn⟩ := X
  obtain ⟨hx, hb, hml, rfl, hown, hts, hE, hA, hlocks, hname, hR, htb, hlt, rfl⟩ := fx
  obtain ⟨s1, s2, s3⟩ := sx
  intro H locs ls hP hD hS hl
  refine va_slen hx hb s1 s2 s3 hS d ?_
  have h9 : Int32.ofNat L = iI ((L : Nat) : Int) := by rw [iI_n]; rfl
  rw [h9]
  exact kk H locs ls hP hD hS hl
theorem kz_wide {c2 s2 : Nat} (h1 : cs ≤ c2) (h2 : sl ≤ s2) (kk : KK X G lv w c2 s2 pc st) : KK X G lv w cs sl pc st := by
  obtain ⟨p, l, e, R, s, m, args, below, meth, c, A, Q, nn⟩ := X
  intro H locs ls hP hD hS hl
  exact W.widen h1 h2 (kk H locs ls hP hD hS hl)
end LWA
section LWB
variable {X : CX} {l0 : Launch} {G : GX} {cc : ByteArray} {Ts : List Cond} {y : MethodName} {nL fr lo mc ms : Nat} {tb : List ExceptionTableEntry} {lv : List (Nat × Value)} {w : va_W} {cs sl pc : Nat} {st : List Value}
theorem kz_lcmp0 (fx : FX X l0 G cc Ts y nL fr lo mc ms tb) {x z : Int64} (d : decode cc pc = .ok (.lcmp, 1)) (h : x = z) (kk : KK X G lv w cs sl (pc + 1) (.int (iI 0) :: st)) : KK X G lv w cs sl pc (.long z :: .long x :: st) := by
  refine kz_lcmp fx d ?_
  rw [h, lc_0]
  exact kk
theorem kz_dcmp0 (fx : FX X l0 G cc Ts y nL fr lo mc ms tb) {x z : UInt64} {op : CmpOp} (d : decode cc pc = .ok (.dcmp op, 1)) (h : x = z) (hn : FP.Core.dIsNaN z = false) (kk : KK X G lv w cs sl (pc + 1) (.int (iI 0) :: st)) : KK X G lv w cs sl pc (.double z :: .double x :: st) := by
  refine kz_dcmp fx d ?_
  rw [h, fl_c hn]
  exact kk
end LWB
/-! WHAT A CODE 0 SAYS. -/
section LWC
theorem cdIdx_0 {n : Nat} {z : Int} (h : cdIdx n z = 0) : 0 ≤ z ∧ z < n := by
  unfold cdIdx at h; (repeat' split at h) <;> first | assumption | omega
theorem cdSetW_0 {n : Nat} {z w : Int} (h : cdSetW n z w = 0) : (0 ≤ z ∧ z < n) ∧ (1 ≤ w ∧ w ≤ 9) := by
  unfold cdSetW at h; (repeat' split at h) <;> omega
theorem cdAdd_0 {n : Nat} {any : Bool} {p w r : Int} (h : cdAdd n any p w r = 0) : (p = -1 ∨ (0 ≤ p ∧ p < n)) ∧ (1 ≤ w ∧ w ≤ 9) ∧ (r = 119 ∨ r = 115) ∧ n < 12 := by
  unfold cdAdd at h; (repeat' split at h) <;> omega
theorem cdPers_0 {np : Nat} {v : Int} (h : cdPers np v = 0) : (1 ≤ v ∧ v ≤ 3) ∧ np < 6 := by
  unfold cdPers at h; (repeat' split at h) <;> omega
theorem cdSub_0 {np n : Nat} {fol : Bool} {p c : Int} (h : cdSub np n fol p c = 0) : (0 ≤ p ∧ p < np) ∧ (0 ≤ c ∧ c < n) := by
  unfold cdSub at h; (repeat' split at h) <;> omega
theorem cdRep_0 {n ni mn : Nat} {g : Bool} {c v s : Int} (h : cdRep n ni mn g c v s = 0) : (0 ≤ c ∧ c < n) ∧ (1 ≤ v ∧ v ≤ 3) ∧ (0 ≤ s ∧ s ≤ mn) ∧ ni < 20 := by
  unfold cdRep at h; (repeat' split at h) <;> omega
theorem cdRes_0 {ni mn : Nat} {en st i e : Int} (h : cdRes ni mn en st i e = 0) : (0 ≤ i ∧ i < ni) ∧ en = -1 ∧ (st ≤ e ∧ e ≤ mn) := by
  unfold cdRes at h; (repeat' split at h) <;> omega
theorem cdCor_0 {ni mn : Nat} {en i v s : Int} (h : cdCor ni mn en i v s = 0) : (0 ≤ i ∧ i < ni) ∧ (1 ≤ v ∧ v ≤ 3) ∧ 0 ≤ s ∧ (s ≤ mn ∨ s ≤ en) := by
  unfold cdCor at h; (repeat' split at h) <;> omega
theorem cdWd_0 {ni : Nat} {en st i : Int} (h : cdWd ni en st i = 0) : (0 ≤ i ∧ i < ni) ∧ en ≠ st := by
  unfold cdWd at h; (repeat' split at h) <;> omega
theorem cdJoin_0 {ni : Nat} {ca cb a b : Int} (h : cdJoin ni ca cb a b = 0) : (0 ≤ a ∧ a < ni) ∧ (0 ≤ b ∧ b < ni) := by
  unfold cdJoin at h; (repeat' split at h) <;> omega
theorem cdMt_0 {n mn nt : Nat} {c f t : Int} (h : cdMt n mn nt c f t = 0) : (0 ≤ c ∧ c < n) ∧ ((mn : Int) ≤ f ∧ f ≤ 9999) ∧ (f < t ∧ t ≤ 10000) ∧ nt < 8 := by
  unfold cdMt at h; (repeat' split at h) <;> omega
theorem cdOff_0 {nt mn : Nat} {fr to k : Int} (h : cdOff nt mn fr to k = 0) : 0 ≤ k ∧ k < nt := by
  unfold cdOff at h; (repeat' split at h) <;> omega
theorem cdPass_0 {mn : Nat} {k : Int} (h : cdPass mn k = 0) : (1 ≤ k ∧ k ≤ 600) ∧ (mn : Int) + k ≤ 9999 := by
  unfold cdPass at h; (repeat' split at h) <;> omega
theorem cdAt_0 {n : Nat} {m c k : Int} (h : cdAt n m c k = 0) : (0 ≤ c ∧ c < n) ∧ (0 ≤ k ∧ k ≤ m) := by
  unfold cdAt at h; (repeat' split at h) <;> omega
theorem cdWL_0 {n : Nat} {g : Bool} {c : Int} (h : cdWL n g c = 0) : 0 ≤ c ∧ c < n := by
  unfold cdWL at h; (repeat' split at h) <;> omega
theorem cdUp_0 {n : Nat} {sh c k : Int} (h : cdUp n sh c k = 0) : (0 ≤ c ∧ c < n) ∧ (0 ≤ k ∧ k ≤ 16) := by
  unfold cdUp at h; (repeat' split at h) <;> omega
theorem cdM_0 {v : Int} (h : cdM v = 0) : v ≠ -1 := by
  unfold cdM at h; (repeat' split at h) <;> omega
theorem cdEx_0 {n mn : Nat} {c : Int} (h : cdEx n mn c = 0) : (0 ≤ c ∧ c < n) ∧ mn ≠ 0 := by
  unfold cdEx at h; (repeat' split at h) <;> omega
theorem cdMean_0 {num k : Int} (h : cdMean num k = 0) : (0 ≤ k ∧ k ≤ 16) ∧ num ≠ 0 := by
  unfold cdMean at h; (repeat' split at h) <;> omega
theorem cdRep_g {n ni mn : Nat} {g g2 : Bool} {c v s : Int} (h : (0 ≤ c ∧ c < n) → g = g2) : cdRep n ni mn g c v s = cdRep n ni mn g2 c v s := by
  unfold cdRep; split
  · rename_i h1; rw [h h1]
  · rfl
theorem cdWL_g {n : Nat} {g g2 : Bool} {c : Int} (h : (0 ≤ c ∧ c < n) → g = g2) : cdWL n g c = cdWL n g2 c := by
  unfold cdWL; split
  · rename_i h1; rw [h h1]
  · rfl
theorem subZ_e {p q : Nat → Bool} {dep : Nat → Int} : ∀ {n : Nat}, (∀ c, c < n → p c = q c) → subZ p dep n = subZ q dep n
  | 0, _ => rfl
  | n + 1, h => by rw [subZ_s, subZ_s, subZ_e (fun c hc => h c (by omega)), h n (by omega)]
theorem tl_eq {bl bl2 nl nl2 ple : Nat → Int} {pfo pw : Nat → Nat} {mkp mfr mto : Nat → Int} {nt mn nc : Nat} (h1 : ∀ c, c < nc → bl c = bl2 c) (h2 : ∀ c, c < nc → nl c = nl2 c) : tlS bl nl ple pfo pw mkp mfr mto nt mn nc = tlS bl2 nl2 ple pfo pw mkp mfr mto nt mn nc := by
  funext p
  exact subZ_e (fun c hc => by unfold conB; rw [h1 c hc, h2 c hc])
theorem bef_e {bef L : Nat → Int} {n c : Nat} (h : c < n) : befF bef L n c = L c := by unfold befF; rw [if_pos h]
theorem mlP_r {s v : Nat → Int} {n0 M : Nat} {f : Nat → Int} {lo hi : Int} (h0 : ∀ k, k < n0 → lo ≤ f k ∧ f k ≤ hi) (hv : ∀ p, p < M → s p ≠ -1 → lo ≤ v p ∧ v p ≤ hi) : ∀ m : Nat, m ≤ M → ∀ k, k < mlN s n0 m → lo ≤ mlP s v n0 f m k ∧ mlP s v n0 f m k ≤ hi
  | 0, _, k, hk => h0 k hk
  | m + 1, hm, k, hk => by
    have ih := mlP_r h0 hv m (by omega)
    by_cases hs : s m = -1
    · rw [mlN_f hs] at hk; rw [mlP_f hs]; exact ih k hk
    · rw [mlN_t hs] at hk; rw [mlP_t hs]
      by_cases he : k = mlN s n0 m
      · subst he; rw [zup_s]; exact hv m (by omega) hs
      · rw [zup_n he]; exact ih k (by omega)
theorem wl_c {g g2 : Nat → Bool} {lev wt : Nat → Int} : ∀ {n : Nat}, (∀ c, c < n → g c = g2 c) → wlF g lev wt n = wlF g2 lev wt n
  | 0, _ => rfl
  | n + 1, h => by rw [wlF_s, wlF_s, wl_c (fun c hc => h c (by omega)), h n (by omega)]
theorem zuN_0 {f : Nat → Nat} {k : Nat} (h : f k = 0) : zuN f k 0 = f := by
  funext j
  by_cases hj : j = k
  · subst hj; rw [zuN_s, h]
  · rw [zuN_n hj]
theorem zup_all {P : Int → Prop} {f : Nat → Int} {n k : Nat} {v : Int} (h : ∀ j, j < n → P (f j)) (hv : P v) : ∀ j, j < n → P (zup f k v j) := fun j hj => by
  by_cases he : j = k
  · subst he; rw [zup_s]; exact hv
  · rw [zup_n he]; exact h j hj
theorem zup_new {P : Int → Prop} {f : Nat → Int} {n : Nat} {v : Int} (h : ∀ j, j < n → P (f j)) (hv : P v) : ∀ j, j < n + 1 → P (zup f n v j) := fun j hj => by
  by_cases he : j = n
  · subst he; rw [zup_s]; exact hv
  · rw [zup_n he]; exact h j (by omega)
theorem p2_lt {n : Nat} (h : n < 12) : 2 ^ n < 4096 := by
  have := Nat.pow_lt_pow_right (a := 2) (by decide) h
  omega
end LWC
