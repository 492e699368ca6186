/-! THE TREE: what its sets of bits are, and what follows. -/
section TRA
def bN (b : Bool) : Nat := if b = true then 1 else 0
theorem bN_t {b : Bool} (h : b = true) : bN b = 1 := by unfold bN; rw [if_pos h]
theorem bN_f {b : Bool} (h : b = false) : bN b = 0 := by unfold bN; rw [if_neg (by rw [h]; exact Bool.false_ne_true)]
/-- a sum -/
def sA (f : Nat → Nat) : Nat → Nat
  | 0 => 0
  | n + 1 => sA f n + f n
theorem sA_s (f : Nat → Nat) (n : Nat) : sA f (n + 1) = sA f n + f n := rfl
theorem sA_c {f g : Nat → Nat} : ∀ {n : Nat}, (∀ k, k < n → f k = g k) → sA f n = sA g n
  | 0, _ => rfl
  | n + 1, h => by rw [sA_s, sA_s, sA_c (fun k hk => h k (by omega)), h n (by omega)]
theorem sA_a (f g : Nat → Nat) : ∀ n : Nat, sA (fun k => f k + g k) n = sA f n + sA g n
  | 0 => rfl
  | n + 1 => by rw [sA_s, sA_s, sA_s, sA_a f g n]; omega
theorem sA_0 : ∀ n : Nat, sA (fun _ => 0) n = 0
  | 0 => rfl
  | n + 1 => by rw [sA_s, sA_0 n]
theorem sA_m (f : Nat → Nat) (a : Nat) : ∀ n : Nat, sA (fun k => f k * a) n = sA f n * a
  | 0 => by show 0 = 0 * a; rw [Nat.zero_mul]
  | n + 1 => by rw [sA_s, sA_s, sA_m f a n, Nat.add_mul]
theorem sA_l (f : Nat → Nat) (a : Nat) : ∀ n : Nat, sA (fun k => a * f k) n = a * sA f n
  | 0 => by show 0 = a * 0; rw [Nat.mul_zero]
  | n + 1 => by rw [sA_s, sA_s, sA_l f a n, Nat.mul_add]
theorem sA_w (f : Nat → Nat → Nat) (n : Nat) : ∀ m : Nat, sA (fun j => sA (fun k => f j k) n) m = sA (fun k => sA (fun j => f j k) m) n
  | 0 => (sA_0 n).symm
  | m + 1 => by rw [sA_s, sA_w f n m, ← sA_a]; rfl
theorem sA_1 (g : Nat → Nat) (c : Nat) : ∀ n : Nat, sA (fun j => bN (decide (c = j)) * g j) n = if c < n then g c else 0
  | 0 => by rw [if_neg (by omega)]; rfl
  | n + 1 => by
    rw [sA_s, sA_1 g c n]
    by_cases h : c = n
    · subst h; rw [if_neg (by omega), if_pos (by omega), bN_t (decide_eq_true rfl)]; omega
    · rw [bN_f (decide_eq_false h)]
      by_cases h2 : c < n
      · rw [if_pos h2, if_pos (by omega)]; omega
      · rw [if_neg h2, if_neg (by omega)]; omega
theorem sA_x {f : Nat → Nat} {m : Nat} : ∀ {n : Nat}, m ≤ n → (∀ j, m ≤ j → f j = 0) → sA f n = sA f m
  | 0, h, _ => by rw [show m = 0 by omega]
  | n + 1, h, h0 => by
    by_cases he : m = n + 1
    · rw [he]
    · rw [sA_s, sA_x (n := n) (by omega) h0, h0 n (by omega)]; omega
theorem cN_sA (p : Nat → Bool) : ∀ n : Nat, cN p n = sA (fun j => bN (p j)) n
  | 0 => rfl
  | n + 1 => by rw [cN_s, sA_s, cN_sA p n]; rfl
theorem sM_sA (p : Nat → Bool) (v : Nat → Nat) : ∀ n : Nat, sM p v n = sA (fun k => bN (p k) * v k) n
  | 0 => rfl
  | n + 1 => by
    rw [sA_s, ← sM_sA p v n]
    cases h : p n with
    | true => rw [sM_t h, bN_t rfl]; omega
    | false => rw [sM_f h, bN_f rfl]; omega
theorem sP_sM (p : Nat → Bool) (v : Nat → Nat) : ∀ n : Nat, sP p (nz v) n = ((sM p v n : Nat) : Int)
  | 0 => rfl
  | n + 1 => by
    cases h : p n with
    | true => rw [sP_t h, sM_t h, sP_sM p v n]; rfl
    | false => rw [sP_f h, sM_f h, sP_sM p v n]
theorem sM_c {p : Nat → Bool} {v w : Nat → Nat} {n : Nat} (h : ∀ k, k < n → p k = true → v k = w k) : sM p v n = sM p w n := by
  rw [sM_sA, sM_sA]
  apply sA_c
  intro k hk
  cases hp : p k with
  | true => rw [h k hk hp]
  | false => rw [bN_f rfl, Nat.zero_mul, Nat.zero_mul]
theorem sM_ge {p : Nat → Bool} {v : Nat → Nat} {k : Nat} (hk : p k = true) : ∀ {n : Nat}, k < n → v k ≤ sM p v n
  | 0, h => by omega
  | n + 1, h => by
    by_cases he : k = n
    · subst he; rw [sM_t hk]; omega
    · have h1 := sM_ge (v := v) hk (n := n) (by omega)
      have h2 := sM_le (p := p) (v := v) (a := n) (b := n + 1) (by omega)
      omega
/-- the sets: above (pw) and below (ww), out of the parents -/
def TRE (nc : Nat) (par : Nat → Int) (pw ww : Nat → Nat) : Prop := (∀ j, j < nc → par j < j) ∧ (∀ j k, j < nc → (pw j).testBit k = (decide (k = j) || (decide (par j ≠ -1) && (pw (par j).toNat).testBit k))) ∧ ∀ c j, (ww c).testBit j = (decide (j < nc) && (pw j).testBit c)
variable {nc : Nat} {par : Nat → Int} {pw ww : Nat → Nat}
theorem tr_hi (hT : TRE nc par pw ww) (rpar : ∀ j, -1 ≤ par j ∧ par j < 12) : ∀ j : Nat, j < nc → ∀ k, j < k → (pw j).testBit k = false := by
  intro j
  induction j using Nat.strongRecOn with
  | ind j ih =>
    intro hj k hk
    rw [hT.2.1 j k hj, decide_eq_false (by omega)]
    by_cases h : par j = -1
    · rw [decide_eq_false (fun z => z h)]; rfl
    · have h1 := hT.1 j hj
      have h2 := rpar j
      rw [ih (par j).toNat (by omega) (by omega) k (by omega)]; simp
theorem tr_own (hT : TRE nc par pw ww) {j : Nat} (hj : j < nc) : (pw j).testBit j = true := by
  rw [hT.2.1 j j hj, decide_eq_true rfl]; rfl
theorem tr_bit (hT : TRE nc par pw ww) (rpar : ∀ j, -1 ≤ par j ∧ par j < 12) {j : Nat} (hj : j < nc) (hp : par j ≠ -1) (k : Nat) : bN ((pw j).testBit k) = bN (decide (k = j)) + bN ((pw (par j).toNat).testBit k) := by
  have h1 := hT.1 j hj
  have h2 := rpar j
  rw [hT.2.1 j k hj, decide_eq_true hp]
  by_cases h : k = j
  · have h3 := tr_hi hT rpar (par j).toNat (by omega) k (by omega)
    rw [h3, decide_eq_true h]; rfl
  · rw [decide_eq_false h]; simp [bN]
theorem tr_bit0 (hT : TRE nc par pw ww) {j : Nat} (hj : j < nc) (hp : par j = -1) (k : Nat) : bN ((pw j).testBit k) = bN (decide (k = j)) := by
  rw [hT.2.1 j k hj, decide_eq_false (p := par j ≠ -1) (fun z => z hp)]; simp
/-- a component is below c when it is c, or below a child of c -/
theorem tr_key (hT : TRE nc par pw ww) (rpar : ∀ j, -1 ≤ par j ∧ par j < 12) : ∀ j : Nat, j < nc → ∀ c : Nat, bN ((pw j).testBit c) = bN (decide (c = j)) + sA (fun k => bN (decide (par k = ((c : Nat) : Int))) * bN ((pw j).testBit k)) nc := by
  intro j
  induction j using Nat.strongRecOn with
  | ind j ih =>
    intro hj c
    by_cases hp : par j = -1
    · rw [tr_bit0 hT hj hp c]
      have : sA (fun k => bN (decide (par k = ((c : Nat) : Int))) * bN ((pw j).testBit k)) nc = 0 := by
        rw [← sA_0 nc]
        apply sA_c
        intro k hk
        rw [tr_bit0 hT hj hp k]
        by_cases hkj : k = j
        · subst hkj; rw [bN_f (decide_eq_false (by omega))]; omega
        · rw [bN_f (decide_eq_false hkj)]; omega
      omega
    · have h1 := hT.1 j hj
      have h2 := rpar j
      have h3 := ih (par j).toNat (by omega) (by omega) c
      have h4 : sA (fun k => bN (decide (par k = ((c : Nat) : Int))) * bN ((pw j).testBit k)) nc = bN (decide (par j = ((c : Nat) : Int))) + sA (fun k => bN (decide (par k = ((c : Nat) : Int))) * bN ((pw (par j).toNat).testBit k)) nc := by
        have h5 := sA_1 (fun k => bN (decide (par k = ((c : Nat) : Int)))) j nc
        rw [if_pos hj] at h5
        rw [← h5, ← sA_a]
        apply sA_c
        intro k hk
        rw [tr_bit hT rpar hj hp k, Nat.mul_add, Nat.mul_comm (bN (decide (j = k))), show decide (k = j) = decide (j = k) by simp [eq_comm]]
      have h6 : bN (decide (par j = ((c : Nat) : Int))) = bN (decide (c = (par j).toNat)) := by
        by_cases h : par j = ((c : Nat) : Int)
        · rw [decide_eq_true h, decide_eq_true (by omega)]
        · rw [decide_eq_false h, decide_eq_false (by omega)]
      rw [tr_bit hT rpar hj hp c]
      omega
/-- a sum over all that are c or below it -/
def tS (nc : Nat) (pw : Nat → Nat) (g : Nat → Nat) (c : Nat) : Nat := sA (fun j => bN ((pw j).testBit c) * g j) nc
theorem tS_k (hT : TRE nc par pw ww) (rpar : ∀ j, -1 ≤ par j ∧ par j < 12) (g : Nat → Nat) {c : Nat} (hc : c < nc) : tS nc pw g c = g c + sM (fun k => decide (par k = ((c : Nat) : Int))) (tS nc pw g) nc := by
  have h1 : tS nc pw g c = sA (fun j => bN (decide (c = j)) * g j + sA (fun k => bN (decide (par k = ((c : Nat) : Int))) * (bN ((pw j).testBit k) * g j)) nc) nc := by
    unfold tS
    apply sA_c
    intro j hj
    rw [tr_key hT rpar j hj c, Nat.add_mul, ← sA_m]
    congr 1
    apply sA_c
    intro k hk
    rw [Nat.mul_assoc]
  rw [h1, sA_a, sA_1, if_pos hc, sA_w, sM_sA]
  congr 1
  apply sA_c
  intro k hk
  rw [sA_l]; rfl
theorem tr_size (hT : TRE nc par pw ww) (hn : nc ≤ 12) (c : Nat) : pc12 (ww c) = tS nc pw (fun _ => 1) c := by
  unfold pc12 tS
  rw [cN_sA, sA_x (m := nc) hn (fun j hj => by rw [hT.2.2 c j, decide_eq_false (by omega)]; rfl)]
  apply sA_c
  intro j hj
  rw [hT.2.2 c j, decide_eq_true hj, Nat.mul_one]; rfl
theorem tr_sz (hT : TRE nc par pw ww) (rpar : ∀ j, -1 ≤ par j ∧ par j < 12) (hn : nc ≤ 12) : ∀ c9, c9 < nc → pc12 (ww c9) = 1 + sM (fun z9 => decide (par z9 = ((c9 : Nat) : Int))) (fun c => pc12 (ww c)) nc := by
  intro c hc
  rw [tr_size hT hn c, tS_k hT rpar _ hc]
  congr 1
  exact sM_c (fun k _ _ => (tr_size hT hn k).symm)
theorem tr_grp (hT : TRE nc par pw ww) (rpar : ∀ j, -1 ≤ par j ∧ par j < 12) (hn : nc ≤ 12) {c : Nat} (hc : c < nc) : decide (1 < pc12 (ww c)) = anyN (fun z9 => decide (par z9 = ((c : Nat) : Int))) nc := by
  have h := tr_sz hT rpar hn c hc
  cases ha : anyN (fun z9 => decide (par z9 = ((c : Nat) : Int))) nc with
  | true =>
    obtain ⟨k, hk, hp⟩ := (anyN_iff _ _).mp ha
    have h1 := sM_ge (p := fun z9 => decide (par z9 = ((c : Nat) : Int))) (v := fun c => pc12 (ww c)) hp hk
    have h2 := tr_sz hT rpar hn k hk
    have h3 : pc12 (ww k) ≤ sM (fun z9 => decide (par z9 = ((c : Nat) : Int))) (fun c => pc12 (ww c)) nc := h1
    exact decide_eq_true (by omega)
  | false =>
    have h1 : sM (fun z9 => decide (par z9 = ((c : Nat) : Int))) (fun c => pc12 (ww c)) nc = 0 := sM_z (fun k hk => by
      cases hp : (decide (par k = ((c : Nat) : Int))) with
      | false => rfl
      | true => exact absurd (anyN_in (p := fun z9 => decide (par z9 = ((c : Nat) : Int))) hk hp) (by rw [ha]; exact Bool.false_ne_true))
    exact decide_eq_false (by omega)
theorem tr_grpz (hT : TRE nc par pw ww) (rpar : ∀ j, -1 ≤ par j ∧ par j < 12) (hn : nc ≤ 12) {z : Int} (hz : 0 ≤ z ∧ z < nc) : decide (1 < pc12 (ww z.toNat)) = anyN (fun z9 => decide (par z9 = z)) nc := by
  have h := tr_grp hT rpar hn (c := z.toNat) (by omega)
  rw [h]
  congr 1
  funext k
  rw [show ((z.toNat : Nat) : Int) = z by omega]
theorem tr_dep (hT : TRE nc par pw ww) (rpar : ∀ j, -1 ≤ par j ∧ par j < 12) (hn : nc ≤ 12) : ∀ j, j < nc → (pc12 (pw j) : Int) = 1 + (if par j = -1 then 0 else (pc12 (pw (par j).toNat) : Int)) := by
  intro j hj
  have h1 := hT.1 j hj
  have h2 := rpar j
  have h3 := sA_1 (fun _ => 1) j 12
  rw [if_pos (show j < 12 by omega)] at h3
  by_cases hp : par j = -1
  · rw [if_pos hp]
    have : pc12 (pw j) = 1 := by
      unfold pc12
      rw [cN_sA, ← h3]
      apply sA_c
      intro k hk
      rw [tr_bit0 hT hj hp k, Nat.mul_one, show decide (k = j) = decide (j = k) by simp [eq_comm]]
    omega
  · rw [if_neg hp]
    have : pc12 (pw j) = 1 + pc12 (pw (par j).toNat) := by
      unfold pc12
      rw [cN_sA, cN_sA, ← h3, ← sA_a]
      apply sA_c
      intro k hk
      rw [tr_bit hT rpar hj hp k, Nat.mul_one, show decide (k = j) = decide (j = k) by simp [eq_comm]]
    omega
/-! leaves -/
theorem tr_lvs (hT : TRE nc par pw ww) (rpar : ∀ j, -1 ≤ par j ∧ par j < 12) (c : Nat) : lvsN ww c nc = tS nc pw (fun j => bN (!decide (1 < pc12 (ww j)))) c := by
  unfold lvsN tS
  rw [cN_sA]
  apply sA_c
  intro j hj
  unfold lvsP
  rw [hT.2.2 c j, decide_eq_true hj]
  cases hb : (pw j).testBit c with
  | false => simp [bN]
  | true =>
    have : c ≤ j := by
      by_cases h : c ≤ j
      · exact h
      · rw [tr_hi hT rpar j hj c (by omega)] at hb; cases hb
    rw [decide_eq_true this]; simp [bN]
theorem tr_lf (hT : TRE nc par pw ww) (rpar : ∀ j, -1 ≤ par j ∧ par j < 12) (hn : nc ≤ 12) : ∀ c9, c9 < nc → nz (fun c => lvsN ww c nc) c9 = if sP (fun z9 => decide (par z9 = ((c9 : Nat) : Int))) (nz (fun c => lvsN ww c nc)) nc = 0 then 1 else sP (fun z9 => decide (par z9 = ((c9 : Nat) : Int))) (nz (fun c => lvsN ww c nc)) nc := by
  have hk : ∀ c, c < nc → lvsN ww c nc = bN (!decide (1 < pc12 (ww c))) + sM (fun z9 => decide (par z9 = ((c : Nat) : Int))) (fun c => lvsN ww c nc) nc := by
    intro c hc
    rw [tr_lvs hT rpar c, tS_k hT rpar _ hc]
    congr 1
    exact sM_c (fun k _ _ => (tr_lvs hT rpar k).symm)
  have hpos : ∀ m c : Nat, c < nc → nc - c ≤ m → 1 ≤ lvsN ww c nc := by
    intro m
    induction m with
    | zero => intro c h1 h2; omega
    | succ m ih =>
      intro c h1 h2
      have h3 := hk c h1
      have h4 := tr_grp hT rpar hn h1
      cases ha : anyN (fun z9 => decide (par z9 = ((c : Nat) : Int))) nc with
      | false => rw [h4, ha] at h3; have : bN (!false) = 1 := rfl; omega
      | true =>
        obtain ⟨k, hk2, hp⟩ := (anyN_iff _ _).mp ha
        have h5 := sM_ge (p := fun z9 => decide (par z9 = ((c : Nat) : Int))) (v := fun c => lvsN ww c nc) hp hk2
        have h5 : lvsN ww k nc ≤ sM (fun z9 => decide (par z9 = ((c : Nat) : Int))) (fun c => lvsN ww c nc) nc := h5
        have h6 := of_decide_eq_true hp
        have h7 := hT.1 k hk2
        have h8 := ih k hk2 (by omega)
        omega
  intro c hc
  rw [sP_sM]
  have h3 := hk c hc
  have h4 := tr_grp hT rpar hn hc
  have h9 := hpos nc c hc (by omega)
  show ((lvsN ww c nc : Nat) : Int) = _
  cases ha : anyN (fun z9 => decide (par z9 = ((c : Nat) : Int))) nc with
  | false =>
    have h1 : sM (fun z9 => decide (par z9 = ((c : Nat) : Int))) (fun c => lvsN ww c nc) nc = 0 := sM_z (fun k hk => by
      cases hp : (decide (par k = ((c : Nat) : Int))) with
      | false => rfl
      | true => exact absurd (anyN_in (p := fun z9 => decide (par z9 = ((c : Nat) : Int))) hk hp) (by rw [ha]; exact Bool.false_ne_true))
    rw [h4, ha] at h3
    have : bN (!false) = 1 := rfl
    rw [h1, if_pos (show ((0 : Nat) : Int) = 0 from rfl)]; omega
  | true =>
    rw [h4, ha] at h3
    have : bN (!true) = 0 := rfl
    rw [if_neg (by omega)]; omega
theorem tr_lfr (hn : nc ≤ 12) : ∀ j, 0 ≤ nz (fun c => lvsN ww c nc) j ∧ nz (fun c => lvsN ww c nc) j ≤ 12 := fun j => by
  have := lvs_le ww j nc
  show (0 : Int) ≤ ((lvsN ww j nc : Nat) : Int) ∧ ((lvsN ww j nc : Nat) : Int) ≤ 12
  omega
/-! the order below -/
theorem wa_walk (hpp : ∀ j, j < nc → par j < j) {c k : Nat} (hk : k < nc) (hp : par k = ((c : Nat) : Int)) {i : Nat} (hi : i < pc12 (ww k)) : ∀ d o : Nat, k - o ≤ d → o ≤ k → waF par ww (nc - o) o ((c : Nat) : Int) ((1 + (sM (fun z9 => decide (par z9 = ((c : Nat) : Int))) (fun c => pc12 (ww c)) k - sM (fun z9 => decide (par z9 = ((c : Nat) : Int))) (fun c => pc12 (ww c)) o) + i : Nat) : Int) = waF par ww (nc - (k + 1)) (k + 1) ((k : Nat) : Int) ((i : Nat) : Int) := by
  intro d
  induction d with
  | zero =>
    intro o h1 h2
    have : o = k := by omega
    subst this
    rw [show nc - o = (nc - (o + 1)) + 1 by omega, waF_s, if_neg (by omega), if_pos hp, if_pos (by omega)]
    congr 1
    omega
  | succ d ih =>
    intro o h1 h2
    by_cases he : o = k
    · exact ih o (by omega) h2
    · have h3 := ih (o + 1) (by omega) (by omega)
      have h4 := sM_le (p := fun z9 => decide (par z9 = ((c : Nat) : Int))) (v := fun c => pc12 (ww c)) (a := o + 1) (b := k) (by omega)
      rw [show nc - o = (nc - (o + 1)) + 1 by omega, waF_s, if_neg (by omega)]
      by_cases hq : par o = ((c : Nat) : Int)
      · have h5 := sM_t (p := fun z9 => decide (par z9 = ((c : Nat) : Int))) (v := fun c => pc12 (ww c)) (n := o) (decide_eq_true hq)
        have h5 : sM (fun z9 => decide (par z9 = ((c : Nat) : Int))) (fun c => pc12 (ww c)) (o + 1) = sM (fun z9 => decide (par z9 = ((c : Nat) : Int))) (fun c => pc12 (ww c)) o + pc12 (ww o) := h5
        rw [if_pos hq, if_neg (by omega), ← h3]
        congr 1
        omega
      · have h5 := sM_f (p := fun z9 => decide (par z9 = ((c : Nat) : Int))) (v := fun c => pc12 (ww c)) (n := o) (decide_eq_false hq)
        rw [if_neg hq, ← h3, h5]
def prF (par : Nat → Int) (ww : Nat → Nat) (nc : Nat) (c i : Nat) : Int := waF par ww (nc - (c + 1)) (c + 1) ((c : Nat) : Int) ((i : Nat) : Int)
theorem prF_0 : ∀ c9 : Nat, prF par ww nc c9 0 = ((c9 : Nat) : Int) := fun c => by unfold prF; exact waF_d (by omega)
theorem prF_k (hT : TRE nc par pw ww) : ∀ c9 k i, c9 < nc → k < nc → par k = ((c9 : Nat) : Int) → i < pc12 (ww k) → prF par ww nc c9 (1 + sM (fun z9 => decide (par z9 = ((c9 : Nat) : Int))) (fun c => pc12 (ww c)) k + i) = prF par ww nc k i := by
  intro c k i hc hk hp hi
  have h1 := hT.1 k hk
  have h2 := wa_walk hT.1 hk hp hi k (c + 1) (by omega) (by omega)
  have h3 : sM (fun z9 => decide (par z9 = ((c : Nat) : Int))) (fun c => pc12 (ww c)) (c + 1) = 0 := sM_z (fun z hz => decide_eq_false (by have := hT.1 z (by omega); omega))
  rw [h3, Nat.sub_zero] at h2
  exact h2
/-! a path -/
theorem op_d {x z d : Nat} : ∀ (n o : Nat) (l : Int), (∀ k, o ≤ k → k < o + n → x.testBit k = z.testBit k) → opF x d n o l = opF z d n o l
  | 0, _, _, _ => rfl
  | n + 1, o, l, h => by
    rw [opF_s, opF_s, h o (by omega) (by omega), op_d n (o + 1) (l - 1) (fun k h1 h2 => h k (by omega) (by omega)), op_d n (o + 1) l (fun k h1 h2 => h k (by omega) (by omega))]
def cbN (x : Nat) : Nat → Nat → Nat
  | 0, _ => 0
  | n + 1, o => bN (x.testBit o) + cbN x n (o + 1)
theorem cb_c (x : Nat) : ∀ n o : Nat, cN x.testBit o + cbN x n o = cN x.testBit (o + n)
  | 0, _ => rfl
  | n + 1, o => by
    have h := cb_c x n (o + 1)
    rw [cN_s] at h
    rw [show o + (n + 1) = o + 1 + n by omega, ← h]
    show _ + (bN (x.testBit o) + cbN x n (o + 1)) = _
    unfold bN
    omega
theorem op_e {x d : Nat} : ∀ (n o : Nat) (l : Int), (cbN x n o : Int) ≤ l → opF x d n o l = ((d : Nat) : Int)
  | 0, _, _, _ => rfl
  | n + 1, o, l, h => by
    have h1 : ((bN (x.testBit o) + cbN x n (o + 1) : Nat) : Int) ≤ l := h
    rw [opF_s]
    by_cases hb : x.testBit o = true
    · rw [bN_t hb] at h1
      rw [if_pos hb, if_neg (by omega)]
      exact op_e n (o + 1) (l - 1) (by omega)
    · rw [bN_f (by simpa using hb)] at h1
      rw [if_neg hb]
      exact op_e n (o + 1) l (by omega)
theorem op_q {z d : Nat} : ∀ (m n o : Nat) (l : Int), m + 1 ≤ n → 0 ≤ l → l ≤ (cbN z m o : Int) → z.testBit (o + m) = true → opF z d n o l = opF z (o + m) m o l
  | 0, 0, _, _, h, _, _, _ => by omega
  | 0, n + 1, o, l, _, h0, h1, hb => by
    have h1 : l ≤ ((0 : Nat) : Int) := h1
    rw [Nat.add_zero] at hb
    rw [opF_s, if_pos hb, if_pos (by omega)]; rfl
  | m + 1, 0, _, _, h, _, _, _ => by omega
  | m + 1, n + 1, o, l, h, h0, h1, hb => by
    have h1 : l ≤ ((bN (z.testBit o) + cbN z m (o + 1) : Nat) : Int) := h1
    rw [opF_s, opF_s]
    by_cases hc : z.testBit o = true
    · rw [bN_t hc] at h1
      rw [if_pos hc, if_pos hc]
      by_cases hl : l = 0
      · rw [if_pos hl, if_pos hl]
      · rw [if_neg hl, if_neg hl, op_q m n (o + 1) (l - 1) (by omega) (by omega) (by omega) (by rw [show o + 1 + m = o + (m + 1) by omega]; exact hb), show o + 1 + m = o + (m + 1) by omega]
    · rw [bN_f (by simpa using hc)] at h1
      rw [if_neg hc, if_neg hc, op_q m n (o + 1) l (by omega) (by omega) (by omega) (by rw [show o + 1 + m = o + (m + 1) by omega]; exact hb), show o + 1 + m = o + (m + 1) by omega]
theorem tr_cb (hT : TRE nc par pw ww) (rpar : ∀ j, -1 ≤ par j ∧ par j < 12) (hn : nc ≤ 12) {c : Nat} (hc : c < nc) : pc12 (pw c) = cbN (pw c) c 0 + 1 := by
  have h1 := cb_c (pw c) c 0
  have h2 : cN (pw c).testBit (c + 1) = cN (pw c).testBit c + 1 := cN_t (tr_own hT hc)
  have h3 : ∀ d, c + 1 + d ≤ 12 → cN (pw c).testBit (c + 1 + d) = cN (pw c).testBit (c + 1) := by
    intro d
    induction d with
    | zero => intro _; rfl
    | succ d ih =>
      intro h
      rw [← Nat.add_assoc, cN_f (tr_hi hT rpar c hc _ (by omega)), ih (by omega)]
  have h4 := h3 (12 - (c + 1)) (by omega)
  rw [show c + 1 + (12 - (c + 1)) = 12 by omega] at h4
  have h5 : cN (pw c).testBit 0 = 0 := rfl
  unfold pc12
  rw [Nat.zero_add] at h1
  omega
def paF (pw : Nat → Nat) (k : Int) (c : Nat) : Int := if k < 0 then 0 else opF (pw c) c c 0 k
theorem paF_k (hT : TRE nc par pw ww) (rpar : ∀ j, -1 ≤ par j ∧ par j < 12) (hn : nc ≤ 12) (k : Int) : ∀ c9, c9 < nc → paF pw k c9 = if k < ((pc12 (pw c9) : Nat) : Int) - 1 then paF pw k (par c9).toNat else ((c9 : Nat) : Int) := by
  intro c hc
  have h1 := tr_cb hT rpar hn hc
  have h2 := tr_dep hT rpar hn c hc
  have h3 := hT.1 c hc
  have h4 := rpar c
  unfold paF
  by_cases hk : k < 0
  · rw [if_pos hk, if_pos hk, if_pos (by omega)]
  · rw [if_neg hk, if_neg hk]
    by_cases hl : k < ((pc12 (pw c) : Nat) : Int) - 1
    · have hp : par c ≠ -1 := fun z => by rw [if_pos z] at h2; omega
      rw [if_neg hp] at h2
      have h5 := tr_cb hT rpar hn (c := (par c).toNat) (by omega)
      have h6 := tr_own hT (j := (par c).toNat) (by omega)
      rw [if_pos hl, op_d c 0 k (z := pw (par c).toNat) (fun j h7 h8 => by rw [hT.2.1 c j hc, decide_eq_false (by omega), decide_eq_true hp]; simp)]
      have h9 := op_q (z := pw (par c).toNat) (d := c) (par c).toNat c 0 k (by omega) (by omega) (by omega) (by rw [Nat.zero_add]; exact h6)
      rw [Nat.zero_add] at h9
      exact h9
    · rw [if_neg hl]
      exact op_e c 0 k (by omega)
theorem paF_v {k : Int} (h : 0 ≤ k) (c : Nat) : paF pw k c = opF (pw c) c c 0 k := by unfold paF; rw [if_neg (by omega)]
/-! a new component -/
theorem wwA_lt {x b k : Nat} {ww : Nat → Nat} (h : ∀ j, ww j < 4096) (hb : b < 4096) : ∀ j, wwA x ww b k j < 4096 := fun j => by
  unfold wwA; split
  · exact Nat.or_lt_two_pow (n := 12) (h j) hb
  · exact h j
theorem zuN_r {f : Nat → Nat} {k v M : Nat} (h : ∀ j, f j < M) (hv : v < M) : ∀ j, zuN f k v j < M := fun j => by
  by_cases hj : j = k
  · subst hj; rw [zuN_s]; exact hv
  · rw [zuN_n hj]; exact h j
theorem tr_add (hT : TRE nc par pw ww) (rpar : ∀ j, -1 ≤ par j ∧ par j < 12) {a : Int} (ha : a = -1 ∨ (0 ≤ a ∧ a < nc)) : TRE (nc + 1) (zup par nc a) (zuN pw nc (npw pw nc a)) (wwA (npw pw nc a) ww (2 ^ nc) (nc + 1)) := by
  have h1 : ∀ j, j < nc + 1 → zup par nc a j < j := by
    intro j hj
    by_cases h : j = nc
    · subst h; rw [zup_s]; omega
    · rw [zup_n h]; exact hT.1 j (by omega)
  have h2 : ∀ j k, j < nc + 1 → (zuN pw nc (npw pw nc a) j).testBit k = (decide (k = j) || (decide (zup par nc a j ≠ -1) && (zuN pw nc (npw pw nc a) (zup par nc a j).toNat).testBit k)) := by
    intro j k hj
    by_cases h : j = nc
    · subst h
      rw [zuN_s, zup_s]
      rcases ha with h3 | h3
      · rw [npw_r h3, decide_eq_false (p := a ≠ -1) (fun z => z h3), Nat.testBit_two_pow]
        simp [eq_comm]
      · rw [npw_o (by omega), decide_eq_true (p := a ≠ -1) (by omega), zuN_n (by omega), Nat.testBit_or, Nat.testBit_two_pow]
        by_cases hk : k = j
        · rw [decide_eq_true (p := j = k) hk.symm, decide_eq_true hk]; simp
        · rw [decide_eq_false (p := j = k) (fun z => hk z.symm), decide_eq_false hk]; simp
    · rw [zuN_n h, zup_n h, hT.2.1 j k (by omega)]
      by_cases hp : par j = -1
      · rw [decide_eq_false (p := par j ≠ -1) (fun z => z hp)]; rfl
      · have := hT.1 j (by omega)
        have := rpar j
        rw [zuN_n (f := pw) (k := nc) (j := (par j).toNat) (by omega)]
  have hx : ∀ c, nc < c → (npw pw nc a).testBit c = false := by
    intro c hc
    rcases ha with h3 | h3
    · rw [npw_r h3, Nat.testBit_two_pow, decide_eq_false (by omega)]
    · rw [npw_o (by omega), Nat.testBit_or, Nat.testBit_two_pow, decide_eq_false (by omega), tr_hi hT rpar a.toNat (by omega) c (by omega)]; rfl
  refine ⟨h1, h2, ?_⟩
  intro c j
  have hw : (wwA (npw pw nc a) ww (2 ^ nc) (nc + 1) c).testBit j = ((ww c).testBit j || (decide (nc = j) && (npw pw nc a).testBit c)) := by
    unfold wwA
    by_cases h : c < nc + 1 ∧ (npw pw nc a).testBit c = true
    · rw [if_pos h, Nat.testBit_or, Nat.testBit_two_pow, h.2, Bool.and_true]
    · rw [if_neg h]
      have : (npw pw nc a).testBit c = false := by
        by_cases hc : c < nc + 1
        · have : ¬ (npw pw nc a).testBit c = true := fun z => h ⟨hc, z⟩
          simpa using this
        · exact hx c (by omega)
      rw [this]; simp
  rw [hw, hT.2.2 c j]
  by_cases hj : j < nc
  · rw [decide_eq_true hj, decide_eq_true (p := j < nc + 1) (by omega), decide_eq_false (p := nc = j) (by omega), zuN_n (by omega)]; simp
  · by_cases he : j = nc
    · subst he; rw [decide_eq_false hj, decide_eq_true (p := j < j + 1) (by omega), zuN_s, decide_eq_true rfl]; simp
    · rw [decide_eq_false hj, decide_eq_false (p := j < nc + 1) (by omega), decide_eq_false (p := nc = j) (by omega)]; simp
theorem tr_0 {par : Nat → Int} : TRE 0 par (fun _ => 0) (fun _ => 0) := ⟨fun j h => by omega, fun j k h => by omega, fun c j => by rw [decide_eq_false (by omega), Nat.zero_testBit]; rfl⟩
end TRA
