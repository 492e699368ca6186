/-! WHAT THE METHODS ANSWER, in plain functions over the arrays. -/
section SP
def nz (f : Nat → Nat) : Nat → Int := fun j => ((f j : Nat) : Int)
def cN (p : Nat → Bool) : Nat → Nat
  | 0 => 0
  | n + 1 => cN p n + (if p n then 1 else 0)
def anyN (p : Nat → Bool) : Nat → Bool
  | 0 => false
  | n + 1 => anyN p n || p n
theorem cN_s (p : Nat → Bool) (n : Nat) : cN p (n + 1) = cN p n + (if p n then 1 else 0) := rfl
theorem cN_t {p : Nat → Bool} {n : Nat} (h : p n = true) : cN p (n + 1) = cN p n + 1 := by rw [cN_s, h]; rfl
theorem cN_f {p : Nat → Bool} {n : Nat} (h : p n = false) : cN p (n + 1) = cN p n := by rw [cN_s, h]; rfl
theorem cN_le (p : Nat → Bool) : ∀ n, cN p n ≤ n
  | 0 => Nat.le_refl 0
  | n + 1 => by
    have := cN_le p n
    rw [cN_s]
    split <;> omega
theorem cN_cong {p q : Nat → Bool} : ∀ {n : Nat}, (∀ k, k < n → p k = q k) → cN p n = cN q n
  | 0, _ => rfl
  | n + 1, h => by rw [cN_s, cN_s, cN_cong (fun k hk => h k (by omega)), h n (by omega)]
theorem anyN_s (p : Nat → Bool) (n : Nat) : anyN p (n + 1) = (anyN p n || p n) := rfl
theorem anyN_iff (p : Nat → Bool) : ∀ n, anyN p n = true ↔ ∃ k, k < n ∧ p k = true
  | 0 => ⟨fun h => absurd (show false = true from h) (by decide), fun ⟨k, h, _⟩ => absurd h (Nat.not_lt_zero k)⟩
  | n + 1 => by
    rw [anyN_s, Bool.or_eq_true, anyN_iff p n]
    constructor
    · rintro (⟨k, h1, h2⟩ | h)
      · exact ⟨k, by omega, h2⟩
      · exact ⟨n, by omega, h⟩
    · rintro ⟨k, h1, h2⟩
      by_cases hk : k = n
      · subst hk; exact Or.inr h2
      · exact Or.inl ⟨k, by omega, h2⟩
theorem anyN_in {p : Nat → Bool} {n k : Nat} (hk : k < n) (h : p k = true) : anyN p n = true := (anyN_iff p n).mpr ⟨k, hk, h⟩
theorem anyN_ff {p : Nat → Bool} {n : Nat} (h0 : anyN p n = false) (h : p n = false) : anyN p (n + 1) = false := by rw [anyN_s, h0, h]; rfl
theorem anyN_cong {p q : Nat → Bool} : ∀ {n : Nat}, (∀ k, k < n → p k = q k) → anyN p n = anyN q n
  | 0, _ => rfl
  | n + 1, h => by rw [anyN_s, anyN_s, anyN_cong (fun k hk => h k (by omega)), h n (by omega)]
/-! bits -/
theorem zb_l : ∀ n, n < 32 → ((nI n &&& 31).toBitVec.smod 32).toNat = n := by decide +kernel
theorem zb_u : ∀ n, n < 32 → (((nI n).toUInt32 &&& Int32.toUInt32 31).toBitVec % 32).toNat = n := by decide +kernel
theorem zb_shr {n b : Nat} (hn : n < 2147483648) (hb : b < 32) : iI ((n : Nat) : Int) >>> (iI ((b : Nat) : Int) &&& 31) = iI ((n / 2 ^ b : Nat) : Int) := by
  rw [iI_n, iI_n, iI_n]
  exact pk_shrN hn _ b (zb_l b hb)
theorem zb_shl {b : Nat} (hb : b < 31) : iI 1 <<< (iI ((b : Nat) : Int) &&& 31) = iI ((2 ^ b : Nat) : Int) := by
  have h : (2 : Nat) ^ b < 2 ^ 32 := Nat.pow_lt_pow_right (by decide) (by omega)
  have h2 := pk_shlN (n := 1) (nI b &&& 31) b (zb_l b (by omega)) (by omega)
  rw [show (iI 1 : Int32) = nI 1 by decide +kernel, iI_n, iI_n, h2, Nat.one_mul]
theorem zb_ushr {n b : Nat} (hn : n < 4294967296) (hb : b < 32) : ((iI ((n : Nat) : Int)).toUInt32 >>> ((iI ((b : Nat) : Int)).toUInt32 &&& Int32.toUInt32 31)).toInt32 = iI ((n / 2 ^ b : Nat) : Int) := by
  rw [iI_n, iI_n, iI_n]
  exact pk_ushrN hn _ b (zb_u b hb)
theorem zb_and (a b : Nat) : iI ((a : Nat) : Int) &&& iI ((b : Nat) : Int) = iI ((a &&& b : Nat) : Int) := by
  rw [iI_n, iI_n, iI_n]
  apply Int32.toBitVec_inj.mp
  show BitVec.ofNat 32 a &&& BitVec.ofNat 32 b = BitVec.ofNat 32 (a &&& b)
  apply BitVec.eq_of_getLsbD_eq
  intro i hi
  simp [BitVec.getLsbD_ofNat, Nat.testBit_and, hi]
theorem zb_or (a b : Nat) : iI ((a : Nat) : Int) ||| iI ((b : Nat) : Int) = iI ((a ||| b : Nat) : Int) := by
  rw [iI_n, iI_n, iI_n]
  apply Int32.toBitVec_inj.mp
  show BitVec.ofNat 32 a ||| BitVec.ofNat 32 b = BitVec.ofNat 32 (a ||| b)
  apply BitVec.eq_of_getLsbD_eq
  intro i hi
  simp [BitVec.getLsbD_ofNat, Nat.testBit_or, hi]
theorem zb_xor (a b : Nat) : iI ((a : Nat) : Int) ^^^ iI ((b : Nat) : Int) = iI ((a ^^^ b : Nat) : Int) := by
  rw [iI_n, iI_n, iI_n]
  apply Int32.toBitVec_inj.mp
  show BitVec.ofNat 32 a ^^^ BitVec.ofNat 32 b = BitVec.ofNat 32 (a ^^^ b)
  apply BitVec.eq_of_getLsbD_eq
  intro i hi
  simp [BitVec.getLsbD_ofNat, Nat.testBit_xor, hi]
theorem zb_and1 (a : Nat) : iI ((a : Nat) : Int) &&& iI 1 = iI ((a % 2 : Nat) : Int) := by
  have h := zb_and a 1
  rw [Nat.and_one_is_mod] at h
  exact h
theorem zb_tb (n b : Nat) : n.testBit b = decide (n / 2 ^ b % 2 = 1) := Nat.testBit_eq_decide_div_mod_eq
/-- how many of the first twelve bits -/
def pc12 (n : Nat) : Nat := cN n.testBit 12
theorem pc12_le (n : Nat) : pc12 n ≤ 12 := cN_le _ _
def bc1 (n : Nat) : Nat := n - (n / 2 ^ 1 &&& 1431655765)
def bc2 (n : Nat) : Nat := (n &&& 858993459) + (n / 2 ^ 2 &&& 858993459)
def bc3 (n : Nat) : Nat := (n + n / 2 ^ 4) &&& 252645135
def bc4 (n : Nat) : Nat := n + n / 2 ^ 8
def bc5 (n : Nat) : Nat := n + n / 2 ^ 16
def bcP (n : Nat) : Prop := (n / 2 ^ 1 &&& 1431655765) ≤ n ∧ bc1 n < 4096 ∧ bc2 (bc1 n) < 1048576 ∧ bc3 (bc2 (bc1 n)) < 1048576 ∧ bc4 (bc3 (bc2 (bc1 n))) < 1048576 ∧ bc5 (bc4 (bc3 (bc2 (bc1 n)))) < 1048576 ∧ (bc5 (bc4 (bc3 (bc2 (bc1 n)))) &&& 63) = pc12 n
theorem bc_two : ∀ a, a < 64 → ∀ b, b < 64 → ((64 * a + b) / 2 ^ 1 &&& 1431655765) ≤ 64 * a + b ∧ bc1 (64 * a + b) < 4096 ∧ bc2 (bc1 (64 * a + b)) < 1048576 ∧ bc3 (bc2 (bc1 (64 * a + b))) < 1048576 ∧ bc4 (bc3 (bc2 (bc1 (64 * a + b)))) < 1048576 ∧ bc5 (bc4 (bc3 (bc2 (bc1 (64 * a + b))))) < 1048576 ∧ (bc5 (bc4 (bc3 (bc2 (bc1 (64 * a + b))))) &&& 63) = pc12 (64 * a + b) := by decide +kernel
theorem bc_all (n : Nat) (h : n < 4096) : bcP n := by
  have h2 := bc_two (n / 64) (by omega) (n % 64) (by omega)
  rw [show 64 * (n / 64) + n % 64 = n by omega] at h2
  exact h2
/-! a span's end -/
def nrr (at_ next change : Int) : Int := if at_ < change ∧ change < next then change else next
def lossZ (v : Int) : Int := if v = 0 then 0 else if v = 1 then 25 else if v = 2 then 50 else 100
def sgnZ (v : Int) : Int := if v = 0 then 117 else if v = 1 then 100 else if v = 2 then 112 else 109
def lvlZ (v : Int) : Int := if v ≤ 0 then 0 else if v ≤ 33 then 1 else if v ≤ 66 then 2 else 3
theorem lossZ_r {v : Int} : 0 ≤ lossZ v ∧ lossZ v ≤ 100 := by unfold lossZ; repeat (first | omega | split)
theorem lvlZ_r {v : Int} : 0 ≤ lvlZ v ∧ lvlZ v ≤ 3 := by unfold lvlZ; repeat (first | omega | split)
/-! the tree's reads -/
def lvsP (ww : Nat → Nat) (c j : Nat) : Bool := decide (c ≤ j) && ((ww c).testBit j && !decide (1 < pc12 (ww j)))
def lvsN (ww : Nat → Nat) (c n : Nat) : Nat := cN (lvsP ww c) n
theorem lvs_0 (ww : Nat → Nat) (c : Nat) : lvsN ww c c = 0 := by
  have h : ∀ n, n ≤ c → cN (lvsP ww c) n = 0 := by
    intro n
    induction n with
    | zero => intro _; rfl
    | succ n ih =>
      intro hn
      rw [cN_f (by unfold lvsP; rw [decide_eq_false (by omega)]; rfl), ih (by omega)]
  exact h c (Nat.le_refl c)
theorem lvs_t {ww : Nat → Nat} {c i : Nat} (h1 : c ≤ i) (h2 : (ww c).testBit i = true) (h3 : ¬ 1 < pc12 (ww i)) : lvsN ww c (i + 1) = lvsN ww c i + 1 := cN_t (by unfold lvsP; rw [decide_eq_true h1, h2, decide_eq_false h3]; rfl)
theorem lvs_f1 {ww : Nat → Nat} {c i : Nat} (h2 : (ww c).testBit i = false) : lvsN ww c (i + 1) = lvsN ww c i := cN_f (by unfold lvsP; rw [h2]; simp)
theorem lvs_f2 {ww : Nat → Nat} {c i : Nat} (h3 : 1 < pc12 (ww i)) : lvsN ww c (i + 1) = lvsN ww c i := cN_f (by unfold lvsP; rw [decide_eq_true h3]; simp)
theorem lvs_le (ww : Nat → Nat) (c i : Nat) : lvsN ww c i ≤ i := cN_le _ _
/-! the incidents' reads -/
def covB (ist ien : Nat → Int) (i : Nat) (u : Int) : Bool := decide (ist i ≤ u) && (decide (ien i = -1) || decide (u < ien i))
def urgB (ilv ist : Nat → Int) (i j : Nat) : Bool := decide (ilv j < ilv i) || (decide (ilv i = ilv j) && decide (ist i < ist j))
def muZ (ilv ist ien : Nat → Int) : Nat → Int
  | 0 => -1
  | n + 1 => if ien n = -1 ∧ (muZ ilv ist ien n = -1 ∨ urgB ilv ist n (muZ ilv ist ien n).toNat = true) then (n : Int) else muZ ilv ist ien n
theorem muZ_s (ilv ist ien : Nat → Int) (n : Nat) : muZ ilv ist ien (n + 1) = if ien n = -1 ∧ (muZ ilv ist ien n = -1 ∨ urgB ilv ist n (muZ ilv ist ien n).toNat = true) then (n : Int) else muZ ilv ist ien n := rfl
theorem muZ_r (ilv ist ien : Nat → Int) : ∀ n : Nat, -1 ≤ muZ ilv ist ien n ∧ muZ ilv ist ien n < n
  | 0 => ⟨by unfold muZ; omega, by unfold muZ; omega⟩
  | n + 1 => by
    have := muZ_r ilv ist ien n
    rw [muZ_s]
    split <;> omega
theorem muZ_a {ilv ist ien : Nat → Int} {n : Nat} (h1 : ien n = -1) (h2 : muZ ilv ist ien n = -1) : muZ ilv ist ien (n + 1) = n := by rw [muZ_s, if_pos ⟨h1, Or.inl h2⟩]
theorem muZ_b {ilv ist ien : Nat → Int} {n : Nat} (h1 : ien n = -1) (h2 : urgB ilv ist n (muZ ilv ist ien n).toNat = true) : muZ ilv ist ien (n + 1) = n := by rw [muZ_s, if_pos ⟨h1, Or.inr h2⟩]
theorem muZ_c {ilv ist ien : Nat → Int} {n : Nat} (h1 : ¬ ien n = -1) : muZ ilv ist ien (n + 1) = muZ ilv ist ien n := by rw [muZ_s, if_neg (fun z => h1 z.1)]
theorem muZ_d {ilv ist ien : Nat → Int} {n : Nat} (h2 : ¬ muZ ilv ist ien n = -1) (h3 : urgB ilv ist n (muZ ilv ist ien n).toNat = false) : muZ ilv ist ien (n + 1) = muZ ilv ist ien n := by
  rw [muZ_s, if_neg]
  rintro ⟨-, z | z⟩
  · exact h2 z
  · rw [h3] at z; cases z
def ncZ (a b : Nat → Int) (u e : Int) : Nat → Int
  | 0 => e
  | n + 1 => nrr u (nrr u (ncZ a b u e n) (a n)) (b n)
theorem ncZ_s (a b : Nat → Int) (u e : Int) (n : Nat) : ncZ a b u e (n + 1) = nrr u (nrr u (ncZ a b u e n) (a n)) (b n) := rfl
theorem nrr_r {u x z lo hi : Int} (h1 : lo ≤ x ∧ x < hi) (h2 : lo ≤ z ∧ z < hi) : lo ≤ nrr u x z ∧ nrr u x z < hi := by
  unfold nrr; split <;> omega
theorem ncZ_r {a b : Nat → Int} {u e : Int} (ha : ∀ j, -1 ≤ a j ∧ a j ≤ 10000) (hb : ∀ j, -1 ≤ b j ∧ b j ≤ 10000) (he : -2147483648 ≤ e ∧ e < 2147483648) : ∀ n, -2147483648 ≤ ncZ a b u e n ∧ ncZ a b u e n < 2147483648
  | 0 => he
  | n + 1 => by
    have h1 := ncZ_r ha hb he n (u := u)
    have h2 := ha n
    have h3 := hb n
    rw [ncZ_s]
    exact nrr_r (nrr_r h1 ⟨by omega, by omega⟩) ⟨by omega, by omega⟩
theorem ncZ_z {a : Nat → Int} (h : ∀ j, 0 ≤ a j ∧ a j ≤ 10000) : ∀ j, -1 ≤ a j ∧ a j ≤ 10000 := fun j => by have := h j; omega
/-! maintenance -/
def excB (mkp mfr mto : Nat → Int) (n : Nat) (u : Int) (k : Nat) : Bool := decide (mfr k ≤ u) && (decide (u < mto k) && n.testBit (mkp k).toNat)
theorem excB_1 {mkp mfr mto : Nat → Int} {n k : Nat} {u : Int} (h : u < mfr k) : excB mkp mfr mto n u k = false := by unfold excB; rw [decide_eq_false (by omega)]; rfl
theorem excB_2 {mkp mfr mto : Nat → Int} {n k : Nat} {u : Int} (h : mto k ≤ u) : excB mkp mfr mto n u k = false := by unfold excB; rw [decide_eq_false (p := u < mto k) (by omega)]; simp
theorem excB_3 {mkp mfr mto : Nat → Int} {n k : Nat} {u : Int} (h : n.testBit (mkp k).toNat = false) : excB mkp mfr mto n u k = false := by unfold excB; rw [h]; simp
theorem excB_t {mkp mfr mto : Nat → Int} {n k : Nat} {u : Int} (h1 : mfr k ≤ u) (h2 : u < mto k) (h : n.testBit (mkp k).toNat = true) : excB mkp mfr mto n u k = true := by unfold excB; rw [decide_eq_true h1, decide_eq_true h2, h]; rfl
end SP
