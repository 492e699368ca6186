/-! WHAT THE METHODS ANSWER, in plain functions over the arrays. -/
section SP
def nz (f : Nat → Nat) : Nat → Int := fun j => ((f j : Nat) : Int)
def cN (p : Nat → Bool) : Nat → Nat
  | 0 => 0
  | n + 1 => cN p n + (if p n then 1 else 0)
def anyN (p : Nat → Bool) : Nat → Bool
  | 0 => false
  | n + 1 => anyN p n || p n
theorem cN_s (p : Nat → Bool) (n : Nat) : cN p (n + 1) = cN p n + (if p n then 1 else 0) := rfl
theorem cN_t {p : Nat → Bool} {n : Nat} (h : p n = true) : cN p (n + 1) = cN p n + 1 := by rw [cN_s, h]; rfl
theorem cN_f {p : Nat → Bool} {n : Nat} (h : p n = false) : cN p (n + 1) = cN p n := by rw [cN_s, h]; rfl
theorem cN_le (p : Nat → Bool) : ∀ n, cN p n ≤ n
  | 0 => Nat.le_refl 0
  | n + 1 => by
    have := cN_le p n
    rw [cN_s]
    split <;> omega
theorem cN_cong {p q : Nat → Bool} : ∀ {n : Nat}, (∀ k, k < n → p k = q k) → cN p n = cN q n
  | 0, _ => rfl
  | n + 1, h => by rw [cN_s, cN_s, cN_cong (fun k hk => h k (by omega)), h n (by omega)]
theorem anyN_s (p : Nat → Bool) (n : Nat) : anyN p (n + 1) = (anyN p n || p n) := rfl
theorem anyN_iff (p : Nat → Bool) : ∀ n, anyN p n = true ↔ ∃ k, k < n ∧ p k = true
  | 0 => ⟨fun h => by cases h, fun ⟨k, h, _⟩ => by omega⟩
  | n + 1 => by
    rw [anyN_s, Bool.or_eq_true, anyN_iff p n]
    constructor
    · rintro (⟨k, h1, h2⟩ | h)
      · exact ⟨k, by omega, h2⟩
      · exact ⟨n, by omega, h⟩
    · rintro ⟨k, h1, h2⟩
      by_cases hk : k = n
      · subst hk; exact Or.inr h2
      · exact Or.inl ⟨k, by omega, h2⟩
theorem anyN_in {p : Nat → Bool} {n k : Nat} (hk : k < n) (h : p k = true) : anyN p n = true := (anyN_iff p n).mpr ⟨k, hk, h⟩
theorem anyN_ff {p : Nat → Bool} {n : Nat} (h0 : anyN p n = false) (h : p n = false) : anyN p (n + 1) = false := by rw [anyN_s, h0, h]; rfl
theorem anyN_cong {p q : Nat → Bool} : ∀ {n : Nat}, (∀ k, k < n → p k = q k) → anyN p n = anyN q n
  | 0, _ => rfl
  | n + 1, h => by rw [anyN_s, anyN_s, anyN_cong (fun k hk => h k (by omega)), h n (by omega)]
/-! bits -/
theorem zb_l : ∀ n, n < 32 → ((nI n &&& 31).toBitVec.smod 32).toNat = n := by decide +kernel
theorem zb_u : ∀ n, n < 32 → (((nI n).toUInt32 &&& Int32.toUInt32 31).toBitVec % 32).toNat = n := by decide +kernel
theorem zb_shr {n b : Nat} (hn : n < 2147483648) (hb : b < 32) : iI ((n : Nat) : Int) >>> (iI ((b : Nat) : Int) &&& 31) = iI ((n / 2 ^ b : Nat) : Int) := by
  rw [iI_n, iI_n, iI_n]
  exact pk_shrN hn _ b (zb_l b hb)
theorem zb_shl {b : Nat} (hb : b < 31) : iI 1 <<< (iI ((b : Nat) : Int) &&& 31) = iI ((2 ^ b : Nat) : Int) := by
  have h : (2 : Nat) ^ b < 2 ^ 32 := Nat.pow_lt_pow_right (by decide) (by omega)
  have h2 := pk_shlN (n := 1) (nI b &&& 31) b (zb_l b (by omega)) (by omega)
  rw [show (iI 1 : Int32) = nI 1 by decide +kernel, iI_n, iI_n, h2, Nat.one_mul]
theorem zb_ushr {n b : Nat} (hn : n < 4294967296) (hb : b < 32) : ((iI ((n : Nat) : Int)).toUInt32 >>> ((iI ((b : Nat) : Int)).toUInt32 &&& Int32.toUInt32 31)).toInt32 = iI ((n / 2 ^ b : Nat) : Int) := by
  rw [iI_n, iI_n, iI_n]
  exact pk_ushrN hn _ b (zb_u b hb)
theorem zb_and (a b : Nat) : iI ((a : Nat) : Int) &&& iI ((b : Nat) : Int) = iI ((a &&& b : Nat) : Int) := by
  rw [iI_n, iI_n, iI_n]
  apply Int32.toBitVec_inj.mp
  show BitVec.ofNat 32 a &&& BitVec.ofNat 32 b = BitVec.ofNat 32 (a &&& b)
  apply BitVec.eq_of_getLsbD_eq
  intro i hi
  simp [BitVec.getLsbD_ofNat, Nat.testBit_and, hi]
theorem zb_or (a b : Nat) : iI ((a : Nat) : Int) ||| iI ((b : Nat) : Int) = iI ((a ||| b : Nat) : Int) := by
  rw [iI_n, iI_n, iI_n]
  apply Int32.toBitVec_inj.mp
  show BitVec.ofNat 32 a ||| BitVec.ofNat 32 b = BitVec.ofNat 32 (a ||| b)
  apply BitVec.eq_of_getLsbD_eq
  intro i hi
  simp [BitVec.getLsbD_ofNat, Nat.testBit_or, hi]
theorem zb_xor (a b : Nat) : iI ((a : Nat) : Int) ^^^ iI ((b : Nat) : Int) = iI ((a ^^^ b : Nat) : Int) := by
  rw [iI_n, iI_n, iI_n]
  apply Int32.toBitVec_inj.mp
  show BitVec.ofNat 32 a ^^^ BitVec.ofNat 32 b = BitVec.ofNat 32 (a ^^^ b)
  apply BitVec.eq_of_getLsbD_eq
  intro i hi
  simp [BitVec.getLsbD_ofNat, Nat.testBit_xor, hi]
theorem zb_and1 (a : Nat) : iI ((a : Nat) : Int) &&& iI 1 = iI ((a % 2 : Nat) : Int) := by
  have h := zb_and a 1
  rw [Nat.and_one_is_mod] at h
  exact h
theorem zb_tb (n b : Nat) : n.testBit b = decide (n / 2 ^ b % 2 = 1) := Nat.testBit_eq_decide_div_mod_eq
/-- how many of the first twelve bits -/
def pc12 (n : Nat) : Nat := cN n.testBit 12
theorem pc12_le (n : Nat) : pc12 n ≤ 12 := cN_le _ _
def bc1 (n : Nat) : Nat := n - (n / 2 ^ 1 &&& 1431655765)
def bc2 (n : Nat) : Nat := (n &&& 858993459) + (n / 2 ^ 2 &&& 858993459)
def bc3 (n : Nat) : Nat := (n + n / 2 ^ 4) &&& 252645135
def bc4 (n : Nat) : Nat := n + n / 2 ^ 8
def bc5 (n : Nat) : Nat := n + n / 2 ^ 16
theorem bc_all : ∀ n, n < 4096 → (n / 2 ^ 1 &&& 1431655765) ≤ n ∧ bc1 n < 4096 ∧ bc2 (bc1 n) < 1048576 ∧ bc3 (bc2 (bc1 n)) < 1048576 ∧ bc4 (bc3 (bc2 (bc1 n))) < 1048576 ∧ bc5 (bc4 (bc3 (bc2 (bc1 n)))) < 1048576 ∧ (bc5 (bc4 (bc3 (bc2 (bc1 n)))) &&& 63) = pc12 n := by decide +kernel
/-! a span's end -/
def nrr (at_ next change : Int) : Int := if at_ < change ∧ change < next then change else next
end SP
