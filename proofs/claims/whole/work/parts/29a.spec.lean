/-! FOR THE MODEL, more. -/
section SN
theorem rg_bI (b : Bool) : rg (bI b) := by cases b <;> exact ⟨by decide, by decide⟩
theorem urg_t {ilv ist : Nat → Int} {i j : Nat} (h : ilv j < ilv i ∨ (ilv i = ilv j ∧ ist i < ist j)) : urgB ilv ist i j = true := by
  unfold urgB
  rcases h with h | ⟨h1, h2⟩
  · rw [decide_eq_true h]; rfl
  · rw [decide_eq_true h1, decide_eq_true h2]; simp
theorem urg_f {ilv ist : Nat → Int} {i j : Nat} (h : ¬ (ilv j < ilv i ∨ (ilv i = ilv j ∧ ist i < ist j))) : urgB ilv ist i j = false := by
  unfold urgB
  rw [decide_eq_false (fun z => h (Or.inl z))]
  by_cases h1 : ilv i = ilv j
  · rw [decide_eq_false (p := ist i < ist j) (fun z => h (Or.inr ⟨h1, z⟩))]; simp
  · rw [decide_eq_false h1]; rfl
/-- the levels that are noted -/
def befF (bef L : Nat → Int) (i : Nat) : Nat → Int := fun j => if j < i then L j else bef j
theorem befF_0 (bef L : Nat → Int) : befF bef L 0 = bef := by funext j; unfold befF; rw [if_neg (by omega)]
theorem befF_s (bef L : Nat → Int) (i : Nat) : zup (befF bef L i) i (L i) = befF bef L (i + 1) := by
  funext j
  by_cases h : j = i
  · subst h; rw [zup_s]; unfold befF; rw [if_pos (by omega)]
  · rw [zup_n h]; unfold befF
    by_cases h2 : j < i
    · rw [if_pos h2, if_pos (by omega)]
    · rw [if_neg h2, if_neg (by omega)]
theorem sWb_t {p : Nat → Bool} {a t : Nat} (h : a ≤ t) (e : p t = true) : sW a (fun t => bI (p t)) (t + 1) = sW a (fun t => bI (p t)) t + 1 := by rw [sW_s _ h]; show _ + bI (p t) = _; rw [e]; rfl
theorem sWb_f {p : Nat → Bool} {a t : Nat} (h : a ≤ t) (e : p t = false) : sW a (fun t => bI (p t)) (t + 1) = sW a (fun t => bI (p t)) t + 0 := by rw [sW_s _ h]; show _ + bI (p t) = _; rw [e]; rfl
end SN
