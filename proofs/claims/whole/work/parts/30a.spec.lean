/-! SHARES, for the model. -/
section SO
theorem sh_z {ex : Nat → Bool} {lv : Nat → Int} {a b : Nat} (h : ucF ex a b = 0) : shF ex lv a b = -1 := by unfold shF; rw [if_pos h]
theorem sh_v {ex : Nat → Bool} {lv : Nat → Int} {a b : Nat} (h : ucF ex a b ≠ 0) : shF ex lv a b = 100 * usF ex lv a b / ucF ex a b := by unfold shF; rw [if_neg h, Int.mul_comm]
theorem sh_n {ex : Nat → Bool} {lv : Nat → Int} {a b : Nat} (h : ucF ex a b ≠ 0) : shF ex lv a b ≠ -1 := by
  by_cases hab : a ≤ b
  · rw [sh_v h]
    have h1 := us_r (ex := ex) (lv := lv) hab
    have h2 := uc_r (ex := ex) hab
    have : 0 ≤ 100 * usF ex lv a b / ucF ex a b := Int.ediv_nonneg (by omega) (by omega)
    omega
  · exact absurd (uc_z (by omega)) h
theorem uc_g (ex : Nat → Bool) (a b : Nat) : 0 ≤ ucF ex a b ∧ ucF ex a b ≤ b := by
  by_cases hab : a ≤ b
  · have := uc_r (ex := ex) hab; omega
  · rw [uc_z (by omega)]; omega
theorem us_g (ex : Nat → Bool) (lv : Nat → Int) (a b : Nat) : 0 ≤ usF ex lv a b ∧ usF ex lv a b ≤ 100 * b := by
  by_cases hab : a ≤ b
  · have := us_r (ex := ex) (lv := lv) hab; omega
  · have : usF ex lv a b = 0 := sW_z _ (by omega)
    rw [this]; omega
theorem sh_m {ex : Nat → Bool} {lv : Nat → Int} {a b : Nat} : 100 * usF ex lv a b / ucF ex a b = if ucF ex a b = 0 then 0 else shF ex lv a b := by
  split
  · rename_i h; rw [h, Int.ediv_zero]
  · rename_i h; rw [sh_v h]
theorem ucG_f0 {ex : Nat → Bool} {a b : Nat} (h : a ≤ b) (e : ex b = true) : ucF ex a (b + 1) = ucF ex a b + 0 := by rw [ucG_f h e]; omega
theorem usG_f0 {ex : Nat → Bool} {lv : Nat → Int} {a b : Nat} (h : a ≤ b) (e : ex b = true) : usF ex lv a (b + 1) = usF ex lv a b + 0 := by rw [usG_f h e]; omega
end SO
