/-! NUMBERS: a Java int as the image of an integer; facts about it. Rows fb_rng .. fb_asI and fb_ct began as the paste of COUNTS. -/
section ZN
def iI (z : Int) : Int32 := Int32.ofInt z
def rg (z : Int) : Prop := -2147483648 ≤ z ∧ z < 2147483648
theorem zn_rng (x : Int32) : rg x.toInt := by
  have h1 := Int32.le_toInt x
  have h2 := Int32.toInt_lt x
  exact ⟨by omega, by omega⟩
theorem zn_bmod {z : Int} (h : rg z) : z.bmod (2 ^ 32) = z := by
  obtain ⟨h1, h2⟩ := h
  rw [Int.bmod_eq_of_le (by omega) (by omega)]
theorem iI_t {z : Int} (h : rg z) : (iI z).toInt = z := by
  unfold iI
  rw [Int32.toInt_ofInt, zn_bmod h]
theorem iI_as (x : Int32) : iI x.toInt = x := Int32.ofInt_toInt x
theorem iI_add (a b : Int) : iI a + iI b = iI (a + b) := (Int32.ofInt_add a b).symm
theorem iI_sub (a b : Int) : iI a - iI b = iI (a - b) := (Int32.ofInt_sub a b).symm
theorem iI_mul (a b : Int) : iI a * iI b = iI (a * b) := (Int32.ofInt_mul a b).symm
theorem iI_inj {a b : Int} (ha : rg a) (hb : rg b) : iI a = iI b ↔ a = b :=
  ⟨fun h => by rw [← iI_t ha, ← iI_t hb, h], fun h => by rw [h]⟩
theorem iI_lt {a b : Int} (ha : rg a) (hb : rg b) : iI a < iI b ↔ a < b := by
  rw [Int32.lt_iff_toInt_lt, iI_t ha, iI_t hb]
theorem iI_le {a b : Int} (ha : rg a) (hb : rg b) : iI a ≤ iI b ↔ a ≤ b := by
  rw [Int32.le_iff_toInt_le, iI_t ha, iI_t hb]
theorem iI_n (n : Nat) : iI (n : Int) = nI n := by
  show Int32.ofInt (n : Int) = Int32.ofNat n
  exact Int32.ofInt_eq_ofNat
theorem iI_0 : iI 0 = 0 := by decide +kernel
def bI (b : Bool) : Int := if b then 1 else 0
theorem bI_t : bI true = 1 := rfl
theorem bI_f : bI false = 0 := rfl
theorem narrow_bI (b : Bool) : narrow .boolean (.int (iI (bI b))) = .int (iI (bI b)) := by cases b <;> decide +kernel
theorem rg0 : rg 0 := by unfold rg; omega
theorem iI_div {a b : Int} (ha : 0 ≤ a) (ha2 : rg a) (hb : 0 < b) (hb2 : rg b) : iI a / iI b = iI (a / b) := by
  obtain ⟨n, rfl⟩ := Int.eq_ofNat_of_zero_le ha
  obtain ⟨d, rfl⟩ := Int.eq_ofNat_of_zero_le (Int.le_of_lt hb)
  obtain ⟨h1, h2⟩ := ha2
  obtain ⟨h3, h4⟩ := hb2
  rw [iI_n, iI_n, pk_div (by omega) (by omega) (by omega), ← iI_n]
  rfl
theorem iI_in {z : Int} {n : Nat} (h0 : 0 ≤ z) (h : z < n) (hn : n < 2147483648) : vp_in (iI z) n := by
  obtain ⟨k, rfl⟩ := Int.eq_ofNat_of_zero_le h0
  rw [iI_n]
  exact vp_in_nI (by omega) (by omega)
theorem iI_cl {z : Int} (h0 : 0 ≤ z) (h : z < 2147483648) : (iI z).toNatClampNeg = z.toNat := by
  obtain ⟨k, rfl⟩ := Int.eq_ofNat_of_zero_le h0
  rw [iI_n, nI_clamp (by omega)]
  rfl
theorem iI_ne0 {b : Int} (h : rg b) (h0 : b ≠ 0) : ¬ iI b = 0 := by
  rw [← iI_0, iI_inj h rg0]; exact h0
def zup (f : Nat → Int) (k : Nat) (v : Int) : Nat → Int := fun j => if j = k then v else f j
theorem zup_s (f : Nat → Int) (k : Nat) (v : Int) : zup f k v k = v := by simp [zup]
theorem zup_n {f : Nat → Int} {k j : Nat} {v : Int} (h : j ≠ k) : zup f k v j = f j := by simp [zup, h]
theorem upd_zup (f : Nat → Int) (k : Nat) (v : Int) : upd (fun j => iI (f j)) k (iI v) = fun j => iI (zup f k v j) := by
  funext j
  by_cases h : j = k
  · rw [h, pk_us, zup_s]
  · rw [pk_un h, zup_n h]
/-- the long of an int -/
def lI (z : Int) : Int64 := Int64.ofInt z
theorem zn_bmodL {z : Int} (h : rg z) : z.bmod Int64.size = z := by
  obtain ⟨h1, h2⟩ := h
  show z.bmod (2 ^ 64) = z
  rw [Int.bmod_eq_of_le (by omega) (by omega)]
theorem lI_t {z : Int} (h : rg z) : (lI z).toInt = z := by
  unfold lI
  rw [Int64.toInt_ofInt, zn_bmodL h]
theorem iI_l {z : Int} (h : rg z) : (iI z).toInt64 = lI z := by
  apply Int64.toInt_inj.1
  rw [Int32.toInt_toInt64, iI_t h, lI_t h]
theorem lI_inj {a b : Int} (ha : rg a) (hb : rg b) : lI a = lI b ↔ a = b :=
  ⟨fun h => by rw [← lI_t ha, ← lI_t hb, h], fun h => by rw [h]⟩
end ZN
