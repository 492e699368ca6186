/-! THE LEVELS of the class are levels of the model. -/
section LVA
theorem mxN_a {p q : Nat → Bool} {v : Nat → Int} {m : Nat} (h : ∀ z, q z = (p z || decide (z = m))) (hp : p m = false) : ∀ {n : Nat}, m < n → mxN q v n = max (mxN p v n) (v m)
  | 0, hn => by omega
  | n + 1, hn => by
    by_cases he : n = m
    · subst he
      have h1 : mxN q v n = mxN p v n := mxN_c (fun k hk => ⟨by rw [h k, decide_eq_false (by omega), Bool.or_false], fun _ => rfl⟩)
      rw [mxN_t (by rw [h n, decide_eq_true rfl, Bool.or_true]), mxN_f hp, h1]
    · have h1 := mxN_a h hp (n := n) (by omega) (v := v)
      have h2 : q n = p n := by rw [h n, decide_eq_false he, Bool.or_false]
      cases hb : p n with
      | true => rw [mxN_t (h2.trans hb), mxN_t hb, h1]; omega
      | false => rw [mxN_f (h2.trans hb), mxN_f hb, h1]
theorem sP_a {p q : Nat → Bool} {v : Nat → Int} {m : Nat} (h : ∀ z, q z = (p z || decide (z = m))) (hp : p m = false) : ∀ {n : Nat}, m < n → sP q v n = sP p v n + v m
  | 0, hn => by omega
  | n + 1, hn => by
    by_cases he : n = m
    · subst he
      have h1 : sP q v n = sP p v n := sN_cong (fun k hk => by rw [h k, decide_eq_false (by omega), Bool.or_false])
      rw [sP_t (by rw [h n, decide_eq_true rfl, Bool.or_true]), sP_f hp, h1]
    · have h1 := sP_a h hp (n := n) (by omega) (v := v)
      have h2 : q n = p n := by rw [h n, decide_eq_false he, Bool.or_false]
      cases hb : p n with
      | true => rw [sP_t (h2.trans hb), sP_t hb, h1]; omega
      | false => rw [sP_f (h2.trans hb), sP_f hb, h1]
theorem sP_c {p q : Nat → Bool} {v w : Nat → Int} {n : Nat} (h : ∀ k, k < n → p k = q k ∧ v k = w k) : sP p v n = sP q w n := sN_cong (fun k hk => by rw [(h k hk).1, (h k hk).2])
variable {g : Nat → Bool} {par wt rl l0 : Nat → Int} {nc : Nat}
theorem stC_1 (c : Nat) (s : LVS) : (stC g par wt rl c s).1 = lvC g rl c s := by
  unfold stC; split <;> rfl
theorem lvC_n {c j : Nat} {s : LVS} (h : j ≠ c) : lvC g rl c s j = s.1 j := by
  unfold lvC; split
  · exact zup_n h
  · rfl
theorem fD_k {c j : Nat} (hc : c < nc) (h : j ≠ c) : (fD g par wt rl l0 nc c).1 j = (fD g par wt rl l0 nc (c + 1)).1 j := by rw [fD_s hc, stC_1, lvC_n h]
theorem fD_fix : ∀ d k : Nat, k + d ≤ nc → ∀ j, k + d ≤ j → (fD g par wt rl l0 nc k).1 j = (fD g par wt rl l0 nc (k + d)).1 j
  | 0, k, _, j, _ => rfl
  | d + 1, k, h, j, hj => by
    rw [fD_k (c := k) (j := j) (by omega) (by omega), fD_fix d (k + 1) (by omega) j (by omega), show k + 1 + d = k + (d + 1) by omega]
theorem fD_ini : ∀ d k : Nat, k + d = nc → ∀ j, j < k → (fD g par wt rl l0 nc k).1 j = l0 j
  | 0, k, h, j, _ => by rw [show k = nc by omega, fD_n]
  | d + 1, k, h, j, hj => by rw [fD_k (c := k) (j := j) (by omega) (by omega), fD_ini d (k + 1) (by omega) j (by omega)]
abbrev kpB (par : Nat → Int) (k c : Nat) : Nat → Bool := fun z9 => decide (k ≤ z9) && decide (par z9 = ((c : Nat) : Int))
theorem kp_n {k c : Nat} (h : par k ≠ ((c : Nat) : Int)) (z : Nat) : kpB par k c z = kpB par (k + 1) c z := by
  show (decide (k ≤ z) && decide (par z = ((c : Nat) : Int))) = (decide (k + 1 ≤ z) && decide (par z = ((c : Nat) : Int)))
  by_cases hz : z = k
  · subst hz; rw [decide_eq_false h]; simp
  · by_cases h1 : k ≤ z
    · rw [decide_eq_true h1, decide_eq_true (p := k + 1 ≤ z) (by omega)]
    · rw [decide_eq_false h1, decide_eq_false (p := k + 1 ≤ z) (by omega)]
theorem kp_t {k c : Nat} (h : par k = ((c : Nat) : Int)) (z : Nat) : kpB par k c z = (kpB par (k + 1) c z || decide (z = k)) := by
  show (decide (k ≤ z) && decide (par z = ((c : Nat) : Int))) = ((decide (k + 1 ≤ z) && decide (par z = ((c : Nat) : Int))) || decide (z = k))
  by_cases hz : z = k
  · subst hz; rw [decide_eq_true h, decide_eq_true (p := z ≤ z) (by omega)]; simp
  · rw [decide_eq_false hz, Bool.or_false]
    by_cases h1 : k ≤ z
    · rw [decide_eq_true h1, decide_eq_true (p := k + 1 ≤ z) (by omega)]
    · rw [decide_eq_false h1, decide_eq_false (p := k + 1 ≤ z) (by omega)]
theorem kp_m (k c : Nat) : kpB par (k + 1) c k = false := by
  show (decide (k + 1 ≤ k) && _) = false
  rw [decide_eq_false (by omega)]; rfl
theorem kp_0 (c z : Nat) : kpB par 0 c z = decide (par z = ((c : Nat) : Int)) := by
  show (decide (0 ≤ z) && _) = _
  rw [decide_eq_true (Nat.zero_le z)]; rfl
/-- what has been passed up by those from k on -/
theorem fD_up (rpar : ∀ j, -1 ≤ par j ∧ par j < 12) : ∀ d k : Nat, k + d = nc → ∀ c : Nat, (fD g par wt rl l0 nc k).2.1 c = mxN (kpB par k c) (fD g par wt rl l0 nc 0).1 nc ∧ (fD g par wt rl l0 nc k).2.2.1 c = sP (kpB par k c) (fun z9 => lossZ ((fD g par wt rl l0 nc 0).1 z9) * wt z9) nc ∧ (fD g par wt rl l0 nc k).2.2.2 c = sP (kpB par k c) wt nc
  | 0, k, h, c => by
    have hk : k = nc := by omega
    subst hk
    have h0 : ∀ z, z < k → kpB par k c z = false := fun z hz => by
      show (decide (k ≤ z) && _) = false
      rw [decide_eq_false (by omega)]; rfl
    rw [mxN_z h0, sP_z h0, sP_z h0, fD_n]
    exact ⟨rfl, rfl, rfl⟩
  | d + 1, k, h, c => by
    obtain ⟨i1, i2, i3⟩ := fD_up rpar d (k + 1) (by omega) c
    have hF : lvC g rl k (fD g par wt rl l0 nc (k + 1)) k = (fD g par wt rl l0 nc 0).1 k := by
      have h1 := fD_fix (g := g) (par := par) (wt := wt) (rl := rl) (l0 := l0) (nc := nc) k 0 (by omega) k (by omega)
      rw [h1, Nat.zero_add, fD_s (show k < nc by omega), stC_1]
    rw [fD_s (show k < nc by omega)]
    by_cases hp : par k = -1
    · rw [stC_n hp]
      have hne : par k ≠ ((c : Nat) : Int) := by omega
      rw [mxN_c (fun z hz => ⟨kp_n hne z, fun _ => rfl⟩), sP_c (fun z hz => ⟨kp_n hne z, rfl⟩), sP_c (w := wt) (fun z hz => ⟨kp_n hne z, rfl⟩)]
      exact ⟨i1, i2, i3⟩
    · rw [stC_p hp]
      have h2 := rpar k
      by_cases hq : par k = ((c : Nat) : Int)
      · have hcq : (par k).toNat = c := by omega
        rw [mxN_a (kp_t hq) (kp_m k c) (show k < nc by omega), sP_a (kp_t hq) (kp_m k c) (show k < nc by omega), sP_a (v := wt) (kp_t hq) (kp_m k c) (show k < nc by omega), ← i1, ← i2, ← i3, hcq]
        refine ⟨?_, ?_, ?_⟩
        · show zup _ c _ c = _
          rw [zup_s, hF]
        · show zup _ c _ c = _
          rw [zup_s, hF]
        · show zup _ c _ c = _
          rw [zup_s]
      · have hcq : c ≠ (par k).toNat := by omega
        rw [mxN_c (fun z hz => ⟨kp_n hq z, fun _ => rfl⟩), sP_c (fun z hz => ⟨kp_n hq z, rfl⟩), sP_c (w := wt) (fun z hz => ⟨kp_n hq z, rfl⟩)]
        refine ⟨?_, ?_, ?_⟩
        · show zup _ (par k).toNat _ c = _
          rw [zup_n hcq]; exact i1
        · show zup _ (par k).toNat _ c = _
          rw [zup_n hcq]; exact i2
        · show zup _ (par k).toNat _ c = _
          rw [zup_n hcq]; exact i3
theorem lvI_m {iow ilv ist ien : Nat → Int} {u : Int} (riow : ∀ j, 0 ≤ iow j ∧ iow j < 12) (c : Nat) : ∀ k : Nat, lvI iow ilv ist ien u k c = mxN (fun i9 => decide (iow i9 = ((c : Nat) : Int)) && covB ist ien i9 u) ilv k
  | 0 => rfl
  | k + 1 => by
    have h1 := lvI_m (ilv := ilv) (ist := ist) (ien := ien) (u := u) riow c k
    have h2 := riow k
    rw [lvI_s]
    cases hb : covB ist ien k u with
    | false => rw [if_neg Bool.false_ne_true, h1, mxN_f (by show (_ && covB ist ien k u) = false; rw [hb, Bool.and_false])]
    | true =>
      rw [if_pos rfl]
      by_cases he : iow k = ((c : Nat) : Int)
      · have hc : (iow k).toNat = c := by omega
        rw [hc, zup_s, h1, mxN_t (by show (decide (iow k = ((c : Nat) : Int)) && covB ist ien k u) = true; rw [hb, decide_eq_true he]; rfl)]
      · rw [zup_n (by omega), h1, mxN_f (by show (decide (iow k = ((c : Nat) : Int)) && covB ist ien k u) = false; rw [decide_eq_false he]; rfl)]
theorem lev_eq {iow ilv ist ien : Nat → Int} {ni : Nat} {u : Int} {pw ww : Nat → Nat} (hT : TRE nc par pw ww) (rpar : ∀ j, -1 ≤ par j ∧ par j < 12) (hn : nc ≤ 12) (riow : ∀ j, 0 ≤ iow j ∧ iow j < 12) (hrl : ∀ j, j < nc → rl j = 119 ∨ rl j = 115) : lvEq par wt rl iow ilv ist ien nc ni u (levA ww par wt rl iow ilv ist ien nc ni u) := by
  intro c hc
  have hg := tr_grp hT rpar hn hc
  have h1 := fD_fix (g := fun z9 => decide (1 < pc12 (ww z9))) (par := par) (wt := wt) (rl := rl) (l0 := lvI iow ilv ist ien u ni) (nc := nc) c 0 (by omega) c (by omega)
  rw [Nat.zero_add, fD_s hc, stC_1] at h1
  obtain ⟨i1, i2, i3⟩ := fD_up (g := fun z9 => decide (1 < pc12 (ww z9))) (wt := wt) (rl := rl) (l0 := lvI iow ilv ist ien u ni) (nc := nc) rpar (nc - (c + 1)) (c + 1) (by omega) c
  have hkp : ∀ z, z < nc → kpB par (c + 1) c z = decide (par z = ((c : Nat) : Int)) := fun z hz => by
    show (decide (c + 1 ≤ z) && decide (par z = ((c : Nat) : Int))) = _
    by_cases h : par z = ((c : Nat) : Int)
    · have := hT.1 z hz
      rw [decide_eq_true (p := c + 1 ≤ z) (by omega), Bool.true_and]
    · rw [decide_eq_false h, Bool.and_false]
  rw [mxN_c (fun z hz => ⟨hkp z hz, fun _ => rfl⟩)] at i1
  rw [sP_c (fun z hz => ⟨hkp z hz, Int.mul_comm _ _⟩)] at i2
  rw [sP_c (w := wt) (fun z hz => ⟨hkp z hz, rfl⟩)] at i3
  show (fD (fun z9 => decide (1 < pc12 (ww z9))) par wt rl (lvI iow ilv ist ien u ni) nc 0).1 c = _
  rw [h1]
  cases ha : anyN (fun z9 => decide (par z9 = ((c : Nat) : Int))) nc with
  | false =>
    rw [if_neg Bool.false_ne_true, lvC_l (by show decide (1 < pc12 (ww c)) = false; rw [hg, ha]), fD_ini (nc - (c + 1)) (c + 1) (by omega) c (by omega)]
    exact lvI_m riow c ni
  | true =>
    have hg2 : (fun z9 => decide (1 < pc12 (ww z9))) c = true := by show decide (1 < pc12 (ww c)) = true; rw [hg, ha]
    rw [if_pos rfl]
    rcases hrl c hc with h2 | h2
    · rw [lvC_w hg2 h2, zup_s, if_neg (by omega), i1]
    · rw [lvC_m hg2 (by omega), zup_s, if_pos h2, i2, i3]
/-- the mean loss of a group -/
theorem lev_ml {iow ilv ist ien : Nat → Int} {ni : Nat} {u : Int} {ww : Nat → Nat} (rpar : ∀ j, -1 ≤ par j ∧ par j < 12) (c : Nat) : (fD (fun z9 => decide (1 < pc12 (ww z9))) par wt rl (lvI iow ilv ist ien u ni) nc 0).2.2.1 c / (fD (fun z9 => decide (1 < pc12 (ww z9))) par wt rl (lvI iow ilv ist ien u ni) nc 0).2.2.2 c = sP (fun z9 => decide (par z9 = ((c : Nat) : Int))) (fun z9 => wt z9 * lossZ (levA ww par wt rl iow ilv ist ien nc ni u z9)) nc / sP (fun z9 => decide (par z9 = ((c : Nat) : Int))) wt nc := by
  obtain ⟨i1, i2, i3⟩ := fD_up (g := fun z9 => decide (1 < pc12 (ww z9))) (wt := wt) (rl := rl) (l0 := lvI iow ilv ist ien u ni) (nc := nc) rpar nc 0 (by omega) c
  rw [i2, i3, sP_c (fun z hz => ⟨kp_0 c z, Int.mul_comm _ _⟩), sP_c (w := wt) (fun z hz => ⟨kp_0 c z, rfl⟩)]
end LVA
