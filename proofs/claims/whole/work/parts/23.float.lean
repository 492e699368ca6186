/-! A SHARE IS A NUMBER; what the changes keep. -/
section SF
theorem nb32 {r : UInt32} (h : FP.Core.fIsNaN r = false) : vf_n32 r := by
  have h2 : ¬ 2139095040 < r.toNat % 2 ^ 31 := fun z => by rw [(FP.Core.isNaN_bits32 r).mpr z] at h; cases h
  unfold vf_n32
  rw [UInt32.le_iff_toNat_le, UInt32.toNat_and]
  show r.toNat &&& 2147483647 ≤ 2139095040
  rw [show (2147483647 : Nat) = 2 ^ 31 - 1 from rfl, Nat.and_two_pow_sub_one_eq_mod]
  omega
theorem nb64 {r : UInt64} (h : FP.Core.dIsNaN r = false) : vf_n64 r := by
  have h2 : ¬ 9218868437227405312 < r.toNat % 2 ^ 63 := fun z => by rw [(FP.Core.isNaN_bits r).mpr z] at h; cases h
  unfold vf_n64
  rw [UInt64.le_iff_toNat_le, UInt64.toNat_and]
  show r.toNat &&& 9223372036854775807 ≤ 9218868437227405312
  rw [show (9223372036854775807 : Nat) = 2 ^ 63 - 1 from rfl, Nat.and_two_pow_sub_one_eq_mod]
  omega
theorem nn_f {a b : Int} (hb : rg b) (h : b ≠ 0) : vf_n32 (FP.fdiv (FP.i2f (iI a)) (FP.i2f (iI b))) := by
  apply nb32
  refine FP.Core.fdiv_out ((FP.Core.notNaN_iff32 _).mpr (FP.Core.i2f_fin _).ne_nan) (FP.Core.i2f_fin _) (fun hz => ?_)
  exact FP.Core.i2f_ne_zero (iI_ne0 hb h) ((FP.Core.zero_bits232 _).mp hz)
theorem nn_d {a b : Int} (hb : rg b) (h : b ≠ 0) : vf_n64 (FP.ddiv (FP.i2d (iI a)) (FP.i2d (iI b))) := by
  apply nb64
  refine FP.Core.ddiv_out ((FP.Core.notNaN_iff _).mpr ?_) (FP.Core.i2d_fin _) (fun hz => ?_)
  · obtain ⟨s, c, q, h⟩ := FP.Core.i2d_fin (iI a)
    intro e
    have e2 : FP.Core.val64 (FP.Core.i2d (iI a)) = .nan := e
    rw [h] at e2; cases e2
  · exact FP.Core.i2d_ne_zero (iI_ne0 hb h) ((FP.Core.zero_bits2 _).mp hz)
theorem zup_l {f : Nat → Int} {k : Nat} {v lo hi : Int} (hf : ∀ j, lo ≤ f j ∧ f j < hi) (hv : lo ≤ v ∧ v < hi) : ∀ j, lo ≤ zup f k v j ∧ zup f k v j < hi := fun j => by
  by_cases h : j = k
  · subst h; rw [zup_s]; exact hv
  · rw [zup_n h]; exact hf j
theorem zuN_lt {f : Nat → Nat} {k v : Nat} (hf : ∀ j, f j < 4096) (hv : v < 4096) : ∀ j, zuN f k v j < 4096 := fun j => by
  by_cases h : j = k
  · subst h; rw [zuN_s]; exact hv
  · rw [zuN_n h]; exact hf j
theorem xor_lt {a c : Nat} (h : a < 4096) (hc : c < 12) : a ^^^ 2 ^ c < 4096 := by
  have h2 : 2 ^ c < 4096 := by
    have := Nat.pow_lt_pow_right (a := 2) (by decide) hc
    omega
  exact Nat.xor_lt_two_pow (n := 12) h h2
theorem mgF_r {ics : Nat → Int} {a b lo hi : Int} (h : ∀ j, lo ≤ ics j ∧ ics j < hi) (ha : lo ≤ a ∧ a < hi) : ∀ k j, lo ≤ mgF ics a b k j ∧ mgF ics a b k j < hi := fun k j => by
  unfold mgF; split
  · exact ha
  · exact h j
theorem mgF_r2 {ics : Nat → Int} {a b : Int} (h : ∀ j, 0 ≤ ics j ∧ ics j < 20) (ha : 0 ≤ a ∧ a < 20) : ∀ k j, -2147483648 ≤ mgF ics a b k j ∧ mgF ics a b k j < 2147483648 := fun k j => by
  have := mgF_r (b := b) h ha k j; omega
end SF
