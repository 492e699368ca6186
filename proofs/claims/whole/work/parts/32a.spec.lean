/-! NOTED LEVELS are levels. -/
section SU
theorem befF_r {bef L : Nat → Int} (h1 : ∀ j, 0 ≤ bef j ∧ bef j ≤ 3) (h2 : ∀ j, 0 ≤ L j ∧ L j ≤ 3) (i : Nat) : ∀ j, 0 ≤ befF bef L i j ∧ befF bef L i j ≤ 3 := fun j => by
  unfold befF; split
  · exact h2 j
  · exact h1 j
end SU
