/-! CODES of the calls, and the shares of a month. -/
section SR
def cdIdx (n : Nat) (z : Int) : Int := if 0 ≤ z ∧ z < n then 0 else 1
def cdSetW (n : Nat) (z w : Int) : Int := if 0 ≤ z ∧ z < n then (if 1 ≤ w ∧ w ≤ 9 then 0 else 2) else 1
def cdAdd (n : Nat) (any : Bool) (p w r : Int) : Int := if p = -1 ∨ (0 ≤ p ∧ p < n) then (if (1 ≤ w ∧ w ≤ 9) ∧ (r = 119 ∨ r = 115) then (if p ≠ -1 ∧ any = true then 3 else if n < 12 then 0 else 4) else 2) else 1
def cdPers (np : Nat) (v : Int) : Int := if 1 ≤ v ∧ v ≤ 3 then (if np < 6 then 0 else 2) else 1
def cdSub (np n : Nat) (fol : Bool) (p c : Int) : Int := if (0 ≤ p ∧ p < np) ∧ (0 ≤ c ∧ c < n) then (if fol = true then 2 else 0) else 1
def cdRep (n ni mn : Nat) (g : Bool) (c v s : Int) : Int := if 0 ≤ c ∧ c < n then (if (1 ≤ v ∧ v ≤ 3) ∧ (0 ≤ s ∧ s ≤ mn) then (if g = true then 3 else if ni < 20 then 0 else 4) else 2) else 1
def cdRes (ni mn : Nat) (en st : Int) (i e : Int) : Int := if 0 ≤ i ∧ i < ni then (if en = -1 then (if st ≤ e ∧ e ≤ mn then 0 else 3) else 2) else 1
def cdCor (ni mn : Nat) (en : Int) (i v s : Int) : Int := if 0 ≤ i ∧ i < ni then (if (1 ≤ v ∧ v ≤ 3) ∧ (0 ≤ s ∧ s ≤ (if en = -1 then (mn : Int) else en)) then 0 else 2) else 1
def cdWd (ni : Nat) (en st : Int) (i : Int) : Int := if 0 ≤ i ∧ i < ni then (if en = st then 2 else 0) else 1
def cdJoin (ni : Nat) (ca cb : Int) (a b : Int) : Int := if (0 ≤ a ∧ a < ni) ∧ (0 ≤ b ∧ b < ni) then (if ca = cb then 2 else 0) else 1
def cdMt (n mn nt : Nat) (c f t : Int) : Int := if 0 ≤ c ∧ c < n then (if ((mn : Int) ≤ f ∧ f ≤ 9999) ∧ (f < t ∧ t ≤ 10000) then (if nt < 8 then 0 else 3) else 2) else 1
def cdOff (nt mn : Nat) (fr to : Int) (k : Int) : Int := if 0 ≤ k ∧ k < nt then (if fr < mn ∨ to = fr then 2 else 0) else 1
def cdPass (mn : Nat) (k : Int) : Int := if 1 ≤ k ∧ k ≤ 600 then (if (mn : Int) + k ≤ 9999 then 0 else 2) else 1
def cdAt (n : Nat) (m : Int) (c k : Int) : Int := if 0 ≤ c ∧ c < n then (if 0 ≤ k ∧ k ≤ m then 0 else 2) else 1
def cdWL (n : Nat) (g : Bool) (c : Int) : Int := if 0 ≤ c ∧ c < n then (if g = true then 0 else 2) else 1
def cdUp (n : Nat) (sh : Int) (c k : Int) : Int := if 0 ≤ c ∧ c < n then (if 0 ≤ k ∧ k ≤ 16 then (if sh = -1 then 3 else 0) else 2) else 1
def cdM (v : Int) : Int := if v = -1 then 1 else 0
def cdEx (n mn : Nat) (c : Int) : Int := if 0 ≤ c ∧ c < n then (if mn = 0 then 2 else 0) else 1
def cdMean (num : Int) (k : Int) : Int := if 0 ≤ k ∧ k ≤ 16 then (if num = 0 then 2 else 0) else 1
/-- is a minute excused; the level in a minute -/
def exP (mkp mfr mto : Nat → Int) (nt n : Nat) : Nat → Bool := fun t => anyN (excB mkp mfr mto n ((t : Nat) : Int)) nt
abbrev levA (ww : Nat → Nat) (par wt rl iow ilv ist ien : Nat → Int) (nc ni : Nat) (u : Int) : Nat → Int := (fD (fun z9 => decide (1 < pc12 (ww z9))) par wt rl (lvI iow ilv ist ien u ni) nc 0).1
theorem levA_r {ww : Nat → Nat} {par wt rl iow ilv ist ien : Nat → Int} {nc ni : Nat} {u : Int} (hw : ∀ j, 0 ≤ wt j ∧ wt j ≤ 9) (h : ∀ j, 0 ≤ ilv j ∧ ilv j ≤ 3) (hn : nc ≤ 12) : ∀ j, 0 ≤ levA ww par wt rl iow ilv ist ien nc ni u j ∧ levA ww par wt rl iow ilv ist ien nc ni u j ≤ 3 := (fD_r hw (lvI_r h ni) hn 0).1
def usG (ex : Nat → Bool) (lv : Nat → Int) : Nat → Int := fun t => if ex t = true then 0 else 100 - lossZ (lv t)
def usF (ex : Nat → Bool) (lv : Nat → Int) (a b : Nat) : Int := sW a (usG ex lv) b
def ucF (ex : Nat → Bool) (a b : Nat) : Int := sW a (fun t => bI (!ex t)) b
def shF (ex : Nat → Bool) (lv : Nat → Int) (a b : Nat) : Int := if ucF ex a b = 0 then -1 else usF ex lv a b * 100 / ucF ex a b
theorem uc_z {ex : Nat → Bool} {a b : Nat} (h : b ≤ a) : ucF ex a b = 0 := sW_z _ h
theorem usG_r (ex : Nat → Bool) (lv : Nat → Int) : ∀ t, 0 ≤ usG ex lv t ∧ usG ex lv t ≤ 100 := fun t => by
  have := lossZ_r (v := lv t)
  unfold usG; split <;> omega
theorem us_r {ex : Nat → Bool} {lv : Nat → Int} {a b : Nat} (h : a ≤ b) : 0 ≤ usF ex lv a b ∧ usF ex lv a b ≤ 100 * ((b : Int) - a) := sW_r1 (by omega) (usG_r ex lv) h
theorem uc_r {ex : Nat → Bool} {a b : Nat} (h : a ≤ b) : 0 ≤ ucF ex a b ∧ ucF ex a b ≤ (b : Int) - a := sW_rb (fun t => !ex t) h
theorem us_le {ex : Nat → Bool} {lv : Nat → Int} {a b : Nat} (h : a ≤ b) : usF ex lv a b ≤ 100 * ucF ex a b := by
  have key : ∀ k, usF ex lv a (a + k) ≤ 100 * ucF ex a (a + k) := by
    intro k
    induction k with
    | zero => unfold usF ucF; rw [Nat.add_zero, sW_0, sW_0]; omega
    | succ k ih =>
      unfold usF ucF at ih ⊢
      rw [← Nat.add_assoc, sW_s _ (by omega), sW_s _ (by omega)]
      have h1 := usG_r ex lv (a + k)
      have h2 : usG ex lv (a + k) ≤ 100 * bI (!ex (a + k)) := by
        unfold usG
        cases he : ex (a + k) with
        | true => rw [if_pos rfl]; decide
        | false => rw [if_neg Bool.false_ne_true]; have := lossZ_r (v := lv (a + k)); show _ ≤ 100 * 1; omega
      omega
  have := key (b - a)
  rw [show a + (b - a) = b by omega] at this
  exact this
theorem sh_r {ex : Nat → Bool} {lv : Nat → Int} {a b : Nat} (h : a ≤ b) : -1 ≤ shF ex lv a b ∧ shF ex lv a b ≤ 10000 := by
  unfold shF
  have h1 := us_r (ex := ex) (lv := lv) h
  have h2 := uc_r (ex := ex) h
  have h3 := us_le (ex := ex) (lv := lv) h
  split
  · omega
  · rename_i hz
    have h4 : 0 ≤ usF ex lv a b * 100 / ucF ex a b := Int.ediv_nonneg (by omega) (by omega)
    have h5 : usF ex lv a b * 100 / ucF ex a b ≤ (10000 * ucF ex a b) / ucF ex a b := Int.ediv_le_ediv (by omega) (by omega)
    rw [Int.mul_ediv_cancel _ hz] at h5
    omega
theorem uc_not {ex : Nat → Bool} {a b : Nat} (h : a ≤ b) : (b : Int) - a - sW a (fun t => bI (ex t)) b = ucF ex a b := by
  have key : ∀ k : Nat, (k : Int) - sW a (fun t => bI (ex t)) (a + k) = ucF ex a (a + k) := by
    intro k
    induction k with
    | zero => unfold ucF; rw [Nat.add_zero, sW_0, sW_0]; rfl
    | succ k ih =>
      unfold ucF at ih ⊢
      rw [← Nat.add_assoc, sW_s _ (by omega), sW_s _ (by omega), ← ih]
      show _ = _ + bI (!ex (a + k))
      cases he : ex (a + k) with
      | true => rw [show bI true = 1 from rfl, show bI (!true) = 0 from rfl]; push_cast; omega
      | false => rw [show bI false = 0 from rfl, show bI (!false) = 1 from rfl]; push_cast; omega
  have := key (b - a)
  rw [show a + (b - a) = b by omega] at this
  rw [← this]
  omega
/-- a span in which nothing changes -/
theorem us_t {ex : Nat → Bool} {lv : Nat → Int} {a b c : Nat} (h : a ≤ b) (hb : b ≤ c) (hx : ∀ t, b ≤ t → t < c → ex t = ex b) (hl : ∀ t, b ≤ t → t < c → lv t = lv b) (e : ex b = false) : usF ex lv a c = usF ex lv a b + (100 - lossZ (lv b)) * ((c : Int) - b) := by
  have hv : ∀ t, b ≤ t → t < c → usG ex lv t = usG ex lv b := fun t h1 h2 => by unfold usG; rw [hx t h1 h2, hl t h1 h2]
  unfold usF
  rw [sW_v h hb hv]
  congr 2
  unfold usG; rw [e, if_neg Bool.false_ne_true]
theorem us_f {ex : Nat → Bool} {lv : Nat → Int} {a b c : Nat} (h : a ≤ b) (hb : b ≤ c) (hx : ∀ t, b ≤ t → t < c → ex t = ex b) (e : ex b = true) : usF ex lv a c = usF ex lv a b := by
  have hv : ∀ t, b ≤ t → t < c → usG ex lv t = usG ex lv b := fun t h1 h2 => by unfold usG; rw [hx t h1 h2, e, if_pos rfl, if_pos rfl]
  unfold usF
  rw [sW_v h hb hv, show usG ex lv b = 0 by unfold usG; rw [e, if_pos rfl]]
  omega
theorem uc_t {ex : Nat → Bool} {a b c : Nat} (h : a ≤ b) (hb : b ≤ c) (hx : ∀ t, b ≤ t → t < c → ex t = ex b) (e : ex b = false) : ucF ex a c = ucF ex a b + ((c : Int) - b) := sW_t (p := fun t => !ex t) h hb (fun t h1 h2 => by show (!ex t) = (!ex b); rw [hx t h1 h2]) (by show (!ex b) = true; rw [e]; rfl)
theorem uc_f {ex : Nat → Bool} {a b c : Nat} (h : a ≤ b) (hb : b ≤ c) (hx : ∀ t, b ≤ t → t < c → ex t = ex b) (e : ex b = true) : ucF ex a c = ucF ex a b := sW_f (p := fun t => !ex t) h hb (fun t h1 h2 => by show (!ex t) = (!ex b); rw [hx t h1 h2]) (by show (!ex b) = false; rw [e]; rfl)
theorem usG_t {ex : Nat → Bool} {lv : Nat → Int} {a b : Nat} (h : a ≤ b) (e : ex b = false) : usF ex lv a (b + 1) = usF ex lv a b + (100 - lossZ (lv b)) := by
  unfold usF; rw [sW_s _ h]; unfold usG; rw [if_neg (by rw [e]; exact Bool.false_ne_true)]
theorem usG_f {ex : Nat → Bool} {lv : Nat → Int} {a b : Nat} (h : a ≤ b) (e : ex b = true) : usF ex lv a (b + 1) = usF ex lv a b := by
  unfold usF; rw [sW_s _ h]; unfold usG; rw [if_pos e]; omega
theorem ucG_t {ex : Nat → Bool} {a b : Nat} (h : a ≤ b) (e : ex b = false) : ucF ex a (b + 1) = ucF ex a b + 1 := by
  unfold ucF; rw [sW_s _ h]; show _ + bI (!ex b) = _; rw [e]; rfl
theorem ucG_f {ex : Nat → Bool} {a b : Nat} (h : a ≤ b) (e : ex b = true) : ucF ex a (b + 1) = ucF ex a b := by
  unfold ucF; rw [sW_s _ h]; show _ + bI (!ex b) = _; rw [e]; show _ + 0 = _; omega
theorem lvI_k {iow ilv ist ien : Nat → Int} {u t x : Int} (h1 : u ≤ t) (h2 : t < x) : ∀ n, (∀ k, k < n → (ist k ≤ u ∨ x ≤ ist k) ∧ (ien k ≤ u ∨ x ≤ ien k)) → lvI iow ilv ist ien t n = lvI iow ilv ist ien u n
  | 0, _ => rfl
  | n + 1, h => by
    have hk := h n (by omega)
    rw [lvI_s, lvI_s, cov_k h1 h2 hk.1 hk.2, lvI_k h1 h2 n (fun k hk => h k (by omega))]
/-- the mean of the components' shares -/
def mnS (sh : Nat → Int) : Nat → Int := sN (fun c => if sh c = -1 then 0 else sh c)
def mnN (sh : Nat → Int) : Nat → Nat := cN (fun c => !decide (sh c = -1))
theorem mnS_t {sh : Nat → Int} {n : Nat} (h : sh n ≠ -1) : mnS sh (n + 1) = mnS sh n + sh n := by unfold mnS; rw [sN_s, if_neg h]
theorem mnS_f {sh : Nat → Int} {n : Nat} (h : sh n = -1) : mnS sh (n + 1) = mnS sh n := by unfold mnS; rw [sN_s, if_pos h]; omega
theorem mnN_t {sh : Nat → Int} {n : Nat} (h : sh n ≠ -1) : mnN sh (n + 1) = mnN sh n + 1 := cN_t (by rw [decide_eq_false h]; rfl)
theorem mnN_f {sh : Nat → Int} {n : Nat} (h : sh n = -1) : mnN sh (n + 1) = mnN sh n := cN_f (by rw [decide_eq_true h]; rfl)
theorem mnS_r {sh : Nat → Int} (h : ∀ c, -1 ≤ sh c ∧ sh c ≤ 10000) : ∀ n : Nat, 0 ≤ mnS sh n ∧ mnS sh n ≤ 10000 * n
  | 0 => by show (0 : Int) ≤ 0 ∧ (0 : Int) ≤ _; omega
  | n + 1 => by
    have h1 := mnS_r h n
    have h2 := h n
    by_cases he : sh n = -1
    · rw [mnS_f he]; push_cast; omega
    · rw [mnS_t he]; push_cast; omega
/-! who is told of what -/
def conB (bl nl ple : Nat → Int) (pfo pw : Nat → Nat) (mkp mfr mto : Nat → Int) (nt : Nat) (mn : Int) (p c : Nat) : Bool := decide (bl c ≠ nl c) && (decide (ple p ≤ max (bl c) (nl c)) && ((pfo p).testBit c && !anyN (excB mkp mfr mto (pw c) mn) nt))
/-- of several that concern, the least deep, and of those the first -/
def subZ (p : Nat → Bool) (dep : Nat → Int) : Nat → Int
  | 0 => -1
  | n + 1 => if p n = true ∧ (subZ p dep n = -1 ∨ dep n < dep (subZ p dep n).toNat) then (n : Int) else subZ p dep n
theorem subZ_s (p : Nat → Bool) (dep : Nat → Int) (n : Nat) : subZ p dep (n + 1) = if p n = true ∧ (subZ p dep n = -1 ∨ dep n < dep (subZ p dep n).toNat) then (n : Int) else subZ p dep n := rfl
theorem subZ_r (p : Nat → Bool) (dep : Nat → Int) : ∀ n : Nat, -1 ≤ subZ p dep n ∧ subZ p dep n < n
  | 0 => by show (-1 : Int) ≤ -1 ∧ (-1 : Int) < 0; omega
  | n + 1 => by
    have := subZ_r p dep n
    rw [subZ_s]
    split <;> omega
theorem subZ_a {p : Nat → Bool} {dep : Nat → Int} {n : Nat} (h1 : p n = true) (h2 : subZ p dep n = -1) : subZ p dep (n + 1) = n := by rw [subZ_s, if_pos ⟨h1, Or.inl h2⟩]
theorem subZ_b {p : Nat → Bool} {dep : Nat → Int} {n : Nat} (h1 : p n = true) (h2 : dep n < dep (subZ p dep n).toNat) : subZ p dep (n + 1) = n := by rw [subZ_s, if_pos ⟨h1, Or.inr h2⟩]
theorem subZ_c {p : Nat → Bool} {dep : Nat → Int} {n : Nat} (h1 : p n = false) : subZ p dep (n + 1) = subZ p dep n := by rw [subZ_s, if_neg (fun z => by rw [h1] at z; cases z.1)]
theorem subZ_d {p : Nat → Bool} {dep : Nat → Int} {n : Nat} (h2 : subZ p dep n ≠ -1) (h3 : dep (subZ p dep n).toNat ≤ dep n) : subZ p dep (n + 1) = subZ p dep n := by
  rw [subZ_s, if_neg]
  rintro ⟨-, z | z⟩
  · exact h2 z
  · omega
/-- the mails of a change: how many, and what stands in them -/
def mlN (s : Nat → Int) (n0 : Nat) : Nat → Nat
  | 0 => n0
  | k + 1 => if s k = -1 then mlN s n0 k else mlN s n0 k + 1
def mlP (s v : Nat → Int) (n0 : Nat) (f : Nat → Int) : Nat → Nat → Int
  | 0 => f
  | k + 1 => if s k = -1 then mlP s v n0 f k else zup (mlP s v n0 f k) (mlN s n0 k) (v k)
theorem mlN_t {s : Nat → Int} {n0 k : Nat} (h : s k ≠ -1) : mlN s n0 (k + 1) = mlN s n0 k + 1 := by show (if s k = -1 then _ else _) = _; rw [if_neg h]
theorem mlN_f {s : Nat → Int} {n0 k : Nat} (h : s k = -1) : mlN s n0 (k + 1) = mlN s n0 k := by show (if s k = -1 then _ else _) = _; rw [if_pos h]
theorem mlP_t {s v : Nat → Int} {n0 k : Nat} {f : Nat → Int} (h : s k ≠ -1) : mlP s v n0 f (k + 1) = zup (mlP s v n0 f k) (mlN s n0 k) (v k) := by show (if s k = -1 then _ else _) = _; rw [if_neg h]
theorem mlP_f {s v : Nat → Int} {n0 k : Nat} {f : Nat → Int} (h : s k = -1) : mlP s v n0 f (k + 1) = mlP s v n0 f k := by show (if s k = -1 then _ else _) = _; rw [if_pos h]
theorem mlN_r (s : Nat → Int) (n0 : Nat) : ∀ k, n0 ≤ mlN s n0 k ∧ mlN s n0 k ≤ n0 + k
  | 0 => ⟨Nat.le_refl _, Nat.le_refl _⟩
  | k + 1 => by
    have := mlN_r s n0 k
    by_cases h : s k = -1
    · rw [mlN_f h]; omega
    · rw [mlN_t h]; omega
end SR
section ST
theorem nar_c {r : Int} (h : 0 ≤ r ∧ r < 65536) : narrow .char (.int (iI r)) = .int (iI r) := by
  have h2 := vp_nar_c h
  show Value.int (vp_nar .char (iI r)) = _
  rw [h2]
theorem nar_sgn (v : Int) : narrow .char (.int (iI (sgnZ v))) = .int (iI (sgnZ v)) := by
  apply nar_c
  unfold sgnZ
  repeat (first | omega | split)
theorem conB_1 {bl nl ple : Nat → Int} {pfo pw : Nat → Nat} {mkp mfr mto : Nat → Int} {nt : Nat} {mn : Int} {p c : Nat} (h : bl c = nl c) : conB bl nl ple pfo pw mkp mfr mto nt mn p c = false := by unfold conB; rw [decide_eq_false (p := bl c ≠ nl c) (fun z => z h)]; rfl
theorem conB_2 {bl nl ple : Nat → Int} {pfo pw : Nat → Nat} {mkp mfr mto : Nat → Int} {nt : Nat} {mn : Int} {p c : Nat} (h : max (bl c) (nl c) < ple p) : conB bl nl ple pfo pw mkp mfr mto nt mn p c = false := by unfold conB; rw [decide_eq_false (p := ple p ≤ max (bl c) (nl c)) (by omega)]; simp
theorem conB_3 {bl nl ple : Nat → Int} {pfo pw : Nat → Nat} {mkp mfr mto : Nat → Int} {nt : Nat} {mn : Int} {p c : Nat} (h : (pfo p).testBit c = false) : conB bl nl ple pfo pw mkp mfr mto nt mn p c = false := by unfold conB; rw [h]; simp
theorem conB_4 {bl nl ple : Nat → Int} {pfo pw : Nat → Nat} {mkp mfr mto : Nat → Int} {nt : Nat} {mn : Int} {p c : Nat} (h : anyN (excB mkp mfr mto (pw c) mn) nt = true) : conB bl nl ple pfo pw mkp mfr mto nt mn p c = false := by unfold conB; rw [h]; simp
theorem conB_t {bl nl ple : Nat → Int} {pfo pw : Nat → Nat} {mkp mfr mto : Nat → Int} {nt : Nat} {mn : Int} {p c : Nat} (h1 : bl c ≠ nl c) (h2 : ple p ≤ max (bl c) (nl c)) (h3 : (pfo p).testBit c = true) (h4 : anyN (excB mkp mfr mto (pw c) mn) nt = false) : conB bl nl ple pfo pw mkp mfr mto nt mn p c = true := by unfold conB; rw [decide_eq_true h1, decide_eq_true h2, h3, h4]; rfl
def bM (mo mn : Nat) : Nat := min (mo * 600 + 600) mn
theorem bM_r (mo mn : Nat) : bM mo mn ≤ mo * 600 + 600 ∧ bM mo mn ≤ mn := by unfold bM; omega
theorem bM_i (mo mn : Nat) : min (((mo : Nat) : Int) * 600 + 600) ((mn : Nat) : Int) = ((bM mo mn : Nat) : Int) := by unfold bM; omega
theorem us_e {ex : Nat → Bool} {lv : Nat → Int} {a x b : Nat} (h : x = b ∨ (x = a ∧ b ≤ a)) : usF ex lv a x = usF ex lv a b := by
  rcases h with h | ⟨h1, h2⟩
  · rw [h]
  · rw [h1]; unfold usF; rw [sW_0, sW_z _ h2]
theorem uc_e {ex : Nat → Bool} {a x b : Nat} (h : x = b ∨ (x = a ∧ b ≤ a)) : ucF ex a x = ucF ex a b := by
  rcases h with h | ⟨h1, h2⟩
  · rw [h]
  · rw [h1]; unfold ucF; rw [sW_0, sW_z _ h2]
abbrev shA (ww : Nat → Nat) (par wt rl iow ilv ist ien : Nat → Int) (nc ni : Nat) (pw : Nat → Nat) (mkp mfr mto : Nat → Int) (nt mn : Nat) (mo c : Nat) : Int := shF (exP mkp mfr mto nt (pw c)) (fun t => levA ww par wt rl iow ilv ist ien nc ni ((t : Nat) : Int) c) (mo * 600) (bM mo mn)
theorem sh_r2 {ex : Nat → Bool} {lv : Nat → Int} {a b : Nat} : -1 ≤ shF ex lv a b ∧ shF ex lv a b ≤ 10000 := by
  by_cases h : a ≤ b
  · exact sh_r h
  · unfold shF; rw [if_pos (uc_z (by omega))]; omega
abbrev tlS (bl nl ple : Nat → Int) (pfo pw : Nat → Nat) (mkp mfr mto : Nat → Int) (nt mn nc : Nat) : Nat → Int := fun p => subZ (conB bl nl ple pfo pw mkp mfr mto nt mn p) (fun c => ((pc12 (pw c) : Nat) : Int) - 1) nc
end ST
