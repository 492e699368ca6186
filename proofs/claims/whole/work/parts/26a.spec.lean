/-! FOR THE MODEL. -/
section SM
theorem cN_bit (n k : Nat) : cN n.testBit (k + 1) = cN n.testBit k + n / 2 ^ k % 2 := by
  have hb := zb_tb n k
  rcases Nat.mod_two_eq_zero_or_one (n / 2 ^ k) with h | h
  · rw [cN_f (by rw [hb]; exact decide_eq_false (by omega)), h, Nat.add_zero]
  · rw [cN_t (by rw [hb]; exact decide_eq_true h), h]
/-- the greatest of those that count -/
def mxN (p : Nat → Bool) (v : Nat → Int) : Nat → Int
  | 0 => 0
  | n + 1 => if p n = true then max (mxN p v n) (v n) else mxN p v n
theorem mxN_t {p : Nat → Bool} {v : Nat → Int} {n : Nat} (h : p n = true) : mxN p v (n + 1) = max (mxN p v n) (v n) := by show (if p n = true then _ else _) = _; rw [if_pos h]
theorem mxN_f {p : Nat → Bool} {v : Nat → Int} {n : Nat} (h : p n = false) : mxN p v (n + 1) = mxN p v n := by show (if p n = true then _ else _) = _; rw [if_neg (by rw [h]; exact Bool.false_ne_true)]
theorem mxN_r {p : Nat → Bool} {v : Nat → Int} (h : ∀ j, 0 ≤ v j ∧ v j ≤ 3) : ∀ n, 0 ≤ mxN p v n ∧ mxN p v n ≤ 3
  | 0 => by show (0 : Int) ≤ 0 ∧ (0 : Int) ≤ 3; omega
  | n + 1 => by
    have h1 := mxN_r h n (p := p)
    have h2 := h n
    cases hp : p n with
    | true => rw [mxN_t hp]; omega
    | false => rw [mxN_f hp]; exact h1
theorem mxN_z {p : Nat → Bool} {v : Nat → Int} : ∀ {n : Nat}, (∀ k, k < n → p k = false) → mxN p v n = 0
  | 0, _ => rfl
  | n + 1, h => by rw [mxN_f (h n (by omega)), mxN_z (fun k hk => h k (by omega))]
theorem mxN_c {p q : Nat → Bool} {v w : Nat → Int} : ∀ {n : Nat}, (∀ k, k < n → p k = q k ∧ (p k = true → v k = w k)) → mxN p v n = mxN q w n
  | 0, _ => rfl
  | n + 1, h => by
    have h1 := mxN_c (fun k hk => h k (Nat.lt_succ_of_lt hk)) (n := n) (p := p) (q := q) (v := v) (w := w)
    have h2 := h n (Nat.lt_succ_self n)
    cases hp : p n with
    | true => rw [mxN_t hp, mxN_t (by rw [← h2.1, hp]), h1, h2.2 hp]
    | false => rw [mxN_f hp, mxN_f (by rw [← h2.1, hp]), h1]
/-- a sum over those that count -/
def sP (p : Nat → Bool) (v : Nat → Int) : Nat → Int := sN (fun k => if p k = true then v k else 0)
theorem sP_t {p : Nat → Bool} {v : Nat → Int} {n : Nat} (h : p n = true) : sP p v (n + 1) = sP p v n + v n := by unfold sP; rw [sN_s, if_pos h]
theorem sP_f {p : Nat → Bool} {v : Nat → Int} {n : Nat} (h : p n = false) : sP p v (n + 1) = sP p v n := by unfold sP; rw [sN_s, if_neg (by rw [h]; exact Bool.false_ne_true)]; omega
theorem sP_z {p : Nat → Bool} {v : Nat → Int} : ∀ {n : Nat}, (∀ k, k < n → p k = false) → sP p v n = 0
  | 0, _ => rfl
  | n + 1, h => by rw [sP_f (h n (by omega)), sP_z (fun k hk => h k (by omega))]
theorem sP_r {p : Nat → Bool} {v : Nat → Int} {M : Int} (hM : 0 ≤ M) (h : ∀ j, 0 ≤ v j ∧ v j ≤ M) : ∀ n : Nat, 0 ≤ sP p v n ∧ sP p v n ≤ M * n
  | 0 => by show (0 : Int) ≤ 0 ∧ (0 : Int) ≤ M * 0; simp
  | n + 1 => by
    have h1 := sP_r hM h n (p := p)
    have h2 := h n
    push_cast
    rw [Int.mul_add]
    cases hp : p n with
    | true => rw [sP_t hp]; omega
    | false => rw [sP_f hp]; omega
theorem sP_ge {p : Nat → Bool} {v : Nat → Int} (h : ∀ j, 0 ≤ v j) {k : Nat} (hk : p k = true) : ∀ {n : Nat}, k < n → v k ≤ sP p v n
  | 0, hn => absurd hn (Nat.not_lt_zero k)
  | n + 1, hn => by
    by_cases he : k = n
    · subst he
      have h1 : ∀ m, 0 ≤ sP p v m := by
        intro m
        induction m with
        | zero => exact Int.le_refl 0
        | succ m ih =>
          have := h m
          cases hp : p m with
          | true => rw [sP_t hp]; omega
          | false => rw [sP_f hp]; omega
      have := h1 k
      rw [sP_t hk]; omega
    · have h1 := sP_ge h hk (n := n) (by omega)
      have h2 := h n
      cases hp : p n with
      | true => rw [sP_t hp]; omega
      | false => rw [sP_f hp]; omega
/-- what the levels of one minute keep among one another -/
def lvEq (par wt rl iow ilv ist ien : Nat → Int) (nc ni : Nat) (u : Int) (L : Nat → Int) : Prop := ∀ c, c < nc → L c = if anyN (fun k => decide (par k = (c : Int))) nc = true then (if rl c = 115 then lvlZ (sP (fun k => decide (par k = (c : Int))) (fun k => wt k * lossZ (L k)) nc / sP (fun k => decide (par k = (c : Int))) wt nc) else mxN (fun k => decide (par k = (c : Int))) L nc) else mxN (fun i => decide (iow i = (c : Int)) && covB ist ien i u) ilv ni
end SM
