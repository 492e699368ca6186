/-! MORE OF WHAT THE METHODS ANSWER: sums over minutes, spans, the levels of a minute. -/
section SQ
def sN (g : Nat → Int) : Nat → Int
  | 0 => 0
  | n + 1 => sN g n + g n
theorem sN_s (g : Nat → Int) (n : Nat) : sN g (n + 1) = sN g n + g n := rfl
theorem sN_cong {g h : Nat → Int} : ∀ {n : Nat}, (∀ k, k < n → g k = h k) → sN g n = sN h n
  | 0, _ => rfl
  | n + 1, e => by rw [sN_s, sN_s, sN_cong (fun k hk => e k (by omega)), e n (by omega)]
/-- the sum from minute a on, up to b -/
def sW (a : Nat) (g : Nat → Int) (b : Nat) : Int := sN (fun t => if a ≤ t then g t else 0) b
theorem sW_s {a b : Nat} (g : Nat → Int) (h : a ≤ b) : sW a g (b + 1) = sW a g b + g b := by
  unfold sW
  rw [sN_s]
  show _ + (if a ≤ b then g b else 0) = _
  rw [if_pos h]
theorem sW_z (g : Nat → Int) : ∀ {b a : Nat}, b ≤ a → sW a g b = 0
  | 0, _, _ => rfl
  | b + 1, a, h => by
    have h1 := sW_z g (b := b) (a := a) (by omega)
    unfold sW at h1 ⊢
    rw [sN_s, h1]
    show 0 + (if a ≤ b then g b else 0) = 0
    rw [if_neg (by omega)]; rfl
theorem sW_0 (a : Nat) (g : Nat → Int) : sW a g a = 0 := sW_z g (Nat.le_refl a)
theorem sW_k {a b : Nat} {g : Nat → Int} {v : Int} (h : a ≤ b) : ∀ (k : Nat), (∀ t, b ≤ t → t < b + k → g t = v) → sW a g (b + k) = sW a g b + v * k
  | 0, _ => by simp
  | k + 1, hv => by
    rw [← Nat.add_assoc, sW_s g (by omega), sW_k h k (fun t h1 h2 => hv t h1 (by omega)), hv (b + k) (by omega) (by omega)]
    push_cast
    rw [Int.mul_add]
    omega
theorem sW_v {a b c : Nat} {g : Nat → Int} (h : a ≤ b) (hb : b ≤ c) (hv : ∀ t, b ≤ t → t < c → g t = g b) : sW a g c = sW a g b + g b * ((c : Int) - b) := by
  have h1 := sW_k (g := g) (v := g b) h (c - b) (fun t h1 h2 => hv t h1 (by omega))
  rw [show b + (c - b) = c by omega] at h1
  rw [h1, show ((c - b : Nat) : Int) = (c : Int) - b by omega]
theorem sW_t {a b c : Nat} {p : Nat → Bool} (h : a ≤ b) (hb : b ≤ c) (hv : ∀ t, b ≤ t → t < c → p t = p b) (e : p b = true) : sW a (fun t => bI (p t)) c = sW a (fun t => bI (p t)) b + ((c : Int) - b) := by
  rw [sW_v (g := fun t => bI (p t)) h hb (fun t h1 h2 => by show bI (p t) = bI (p b); rw [hv t h1 h2])]
  show _ + bI (p b) * _ = _
  rw [e, show bI true = 1 from rfl]; omega
theorem sW_f {a b c : Nat} {p : Nat → Bool} (h : a ≤ b) (hb : b ≤ c) (hv : ∀ t, b ≤ t → t < c → p t = p b) (e : p b = false) : sW a (fun t => bI (p t)) c = sW a (fun t => bI (p t)) b := by
  rw [sW_v (g := fun t => bI (p t)) h hb (fun t h1 h2 => by show bI (p t) = bI (p b); rw [hv t h1 h2])]
  show _ + bI (p b) * _ = _
  rw [e, show bI false = 0 from rfl]; omega
theorem sW_cong {a : Nat} {g h : Nat → Int} {n : Nat} (e : ∀ k, k < n → g k = h k) : sW a g n = sW a h n := sN_cong (fun k hk => by
  show (if a ≤ k then g k else 0) = (if a ≤ k then h k else 0)
  rw [e k hk])
theorem sW_r {a : Nat} {g : Nat → Int} {M : Int} (hM : 0 ≤ M) (hg : ∀ t, 0 ≤ g t ∧ g t ≤ M) : ∀ k, 0 ≤ sW a g (a + k) ∧ sW a g (a + k) ≤ M * k
  | 0 => by rw [Nat.add_zero, sW_0]; simp
  | k + 1 => by
    have h1 := sW_r hM hg k (a := a)
    have h2 := hg (a + k)
    rw [← Nat.add_assoc, sW_s g (by omega)]
    push_cast
    rw [Int.mul_add]
    omega
theorem sW_r1 {a b : Nat} {g : Nat → Int} {M : Int} (hM : 0 ≤ M) (hg : ∀ t, 0 ≤ g t ∧ g t ≤ M) (h : a ≤ b) : 0 ≤ sW a g b ∧ sW a g b ≤ M * ((b : Int) - a) := by
  have h1 := sW_r hM hg (b - a) (a := a)
  rw [show a + (b - a) = b by omega, show ((b - a : Nat) : Int) = (b : Int) - a by omega] at h1
  exact h1
theorem bI_r {p : Nat → Bool} : ∀ t, 0 ≤ bI (p t) ∧ bI (p t) ≤ 1 := fun t => by cases p t <;> decide
theorem sW_rb {a b : Nat} (p : Nat → Bool) (h : a ≤ b) : 0 ≤ sW a (fun t => bI (p t)) b ∧ sW a (fun t => bI (p t)) b ≤ (b : Int) - a := by
  have := sW_r1 (M := 1) (by omega) (bI_r (p := p)) h
  omega
/-! spans without a change -/
theorem nrr_le (u x z : Int) : nrr u x z ≤ x := by unfold nrr; split <;> omega
theorem nrr_gt {u x : Int} (z : Int) (h : u < x) : u < nrr u x z := by unfold nrr; split <;> omega
theorem nrr_no (u x z : Int) : z ≤ u ∨ nrr u x z ≤ z := by unfold nrr; split <;> omega
theorem ncZ_in {a b : Nat → Int} {u e : Int} (h : u < e) : ∀ n, u < ncZ a b u e n ∧ ncZ a b u e n ≤ e
  | 0 => ⟨h, Int.le_refl e⟩
  | n + 1 => by
    have h1 := ncZ_in (a := a) (b := b) h n
    rw [ncZ_s]
    exact ⟨nrr_gt _ (nrr_gt _ h1.1), Int.le_trans (nrr_le _ _ _) (Int.le_trans (nrr_le _ _ _) h1.2)⟩
theorem ncZ_no {a b : Nat → Int} {u e : Int} : ∀ n k, k < n → (a k ≤ u ∨ ncZ a b u e n ≤ a k) ∧ (b k ≤ u ∨ ncZ a b u e n ≤ b k)
  | 0, k, h => absurd h (Nat.not_lt_zero k)
  | n + 1, k, h => by
    rw [ncZ_s]
    have l1 := nrr_le u (nrr u (ncZ a b u e n) (a n)) (b n)
    have l2 := nrr_le u (ncZ a b u e n) (a n)
    by_cases hk : k = n
    · subst hk
      have n1 := nrr_no u (ncZ a b u e k) (a k)
      have n2 := nrr_no u (nrr u (ncZ a b u e k) (a k)) (b k)
      omega
    · have := ncZ_no (a := a) (b := b) (u := u) (e := e) n k (by omega)
      omega
theorem decC {p q : Prop} [Decidable p] [Decidable q] (h : p ↔ q) : decide p = decide q := by
  by_cases hp : p
  · rw [decide_eq_true hp, decide_eq_true (h.mp hp)]
  · rw [decide_eq_false hp, decide_eq_false (fun z => hp (h.mpr z))]
theorem cov_k {ist ien : Nat → Int} {k : Nat} {u t x : Int} (h1 : u ≤ t) (h2 : t < x) (ha : ist k ≤ u ∨ x ≤ ist k) (hb : ien k ≤ u ∨ x ≤ ien k) : covB ist ien k t = covB ist ien k u := by
  unfold covB
  rw [decC (p := ist k ≤ t) (q := ist k ≤ u) (by omega), decC (p := t < ien k) (q := u < ien k) (by omega)]
theorem exc_k {mkp mfr mto : Nat → Int} {n k : Nat} {u t x : Int} (h1 : u ≤ t) (h2 : t < x) (ha : mfr k ≤ u ∨ x ≤ mfr k) (hb : mto k ≤ u ∨ x ≤ mto k) : excB mkp mfr mto n t k = excB mkp mfr mto n u k := by
  unfold excB
  rw [decC (p := mfr k ≤ t) (q := mfr k ≤ u) (by omega), decC (p := t < mto k) (q := u < mto k) (by omega)]
/-! a place in the order below a component; a place on a path -/
def waF (par : Nat → Int) (ww : Nat → Nat) : Nat → Nat → Int → Int → Int
  | 0, _, a, _ => a
  | n + 1, o, a, l => if l ≤ 0 then a else if par o = a then (if l ≤ ((pc12 (ww o) : Nat) : Int) then waF par ww n (o + 1) ((o : Nat) : Int) (l - 1) else waF par ww n (o + 1) a (l - ((pc12 (ww o) : Nat) : Int))) else waF par ww n (o + 1) a l
theorem waF_s (par : Nat → Int) (ww : Nat → Nat) (n o : Nat) (a l : Int) : waF par ww (n + 1) o a l = if l ≤ 0 then a else if par o = a then (if l ≤ ((pc12 (ww o) : Nat) : Int) then waF par ww n (o + 1) ((o : Nat) : Int) (l - 1) else waF par ww n (o + 1) a (l - ((pc12 (ww o) : Nat) : Int))) else waF par ww n (o + 1) a l := rfl
theorem waF_d {par : Nat → Int} {ww : Nat → Nat} {n o : Nat} {a l : Int} (h : l ≤ 0) : waF par ww n o a l = a := by
  cases n with
  | zero => rfl
  | succ n => rw [waF_s, if_pos h]
def opF (x c : Nat) : Nat → Nat → Int → Int
  | 0, _, _ => c
  | n + 1, o, l => if x.testBit o = true then (if l = 0 then o else opF x c n (o + 1) (l - 1)) else opF x c n (o + 1) l
theorem opF_s (x c n o : Nat) (l : Int) : opF x c (n + 1) o l = if x.testBit o = true then (if l = 0 then (o : Int) else opF x c n (o + 1) (l - 1)) else opF x c n (o + 1) l := rfl
/-- what a new component's bit does to the sets below -/
def wwA (x : Nat) (ww : Nat → Nat) (b : Nat) (k : Nat) : Nat → Nat := fun j => if j < k ∧ x.testBit j = true then ww j ||| b else ww j
theorem wwA_0 (x : Nat) (ww : Nat → Nat) (b : Nat) : wwA x ww b 0 = ww := by funext j; unfold wwA; rw [if_neg (by omega)]
theorem wwA_t {x : Nat} {ww : Nat → Nat} {b k : Nat} (h : x.testBit k = true) : zuN (wwA x ww b k) k (wwA x ww b k k ||| b) = wwA x ww b (k + 1) := by
  funext j
  unfold zuN
  by_cases hj : j = k
  · subst hj
    rw [if_pos rfl]; unfold wwA; rw [if_neg (by omega), if_pos ⟨by omega, h⟩]
  · rw [if_neg hj]; unfold wwA
    by_cases h2 : j < k ∧ x.testBit j = true
    · rw [if_pos h2, if_pos ⟨by omega, h2.2⟩]
    · rw [if_neg h2, if_neg (fun z => h2 ⟨by omega, z.2⟩)]
theorem wwA_f {x : Nat} {ww : Nat → Nat} {b k : Nat} (h : x.testBit k = false) : wwA x ww b k = wwA x ww b (k + 1) := by
  funext j
  unfold wwA
  by_cases h2 : j < k ∧ x.testBit j = true
  · rw [if_pos h2, if_pos ⟨by omega, h2.2⟩]
  · rw [if_neg h2, if_neg (fun z => h2 ⟨by
      by_cases hj : j = k
      · subst hj; rw [h] at z; cases z.2
      · omega, z.2⟩)]
/-- the cases after one is merged into another -/
def mgF (ics : Nat → Int) (a b : Int) (k : Nat) : Nat → Int := fun j => if j < k ∧ ics j = b then a else ics j
theorem mgF_0 (ics : Nat → Int) (a b : Int) : mgF ics a b 0 = ics := by funext j; unfold mgF; rw [if_neg (by omega)]
theorem mgF_k (ics : Nat → Int) (a b : Int) (k : Nat) : mgF ics a b k k = ics k := by unfold mgF; rw [if_neg (by omega)]
theorem mgF_t {ics : Nat → Int} {a b : Int} {k : Nat} (h : mgF ics a b k k = b) : zup (mgF ics a b k) k a = mgF ics a b (k + 1) := by
  rw [mgF_k] at h
  funext j
  by_cases hj : j = k
  · subst hj; rw [zup_s]; unfold mgF; rw [if_pos ⟨by omega, h⟩]
  · rw [zup_n hj]; unfold mgF
    by_cases h2 : j < k ∧ ics j = b
    · rw [if_pos h2, if_pos ⟨by omega, h2.2⟩]
    · rw [if_neg h2, if_neg (fun z => h2 ⟨by omega, z.2⟩)]
theorem mgF_f {ics : Nat → Int} {a b : Int} {k : Nat} (h : ¬ mgF ics a b k k = b) : mgF ics a b k = mgF ics a b (k + 1) := by
  rw [mgF_k] at h
  funext j
  unfold mgF
  by_cases h2 : j < k ∧ ics j = b
  · rw [if_pos h2, if_pos ⟨by omega, h2.2⟩]
  · rw [if_neg h2, if_neg (fun z => h2 ⟨by
      by_cases hj : j = k
      · subst hj; exact absurd z.2 h
      · omega, z.2⟩)]
/-! the levels of a minute -/
def lvI (iow ilv ist ien : Nat → Int) (u : Int) : Nat → Nat → Int
  | 0 => fun _ => 0
  | k + 1 => if covB ist ien k u = true then zup (lvI iow ilv ist ien u k) (iow k).toNat (max (lvI iow ilv ist ien u k (iow k).toNat) (ilv k)) else lvI iow ilv ist ien u k
theorem lvI_s (iow ilv ist ien : Nat → Int) (u : Int) (k : Nat) : lvI iow ilv ist ien u (k + 1) = if covB ist ien k u = true then zup (lvI iow ilv ist ien u k) (iow k).toNat (max (lvI iow ilv ist ien u k (iow k).toNat) (ilv k)) else lvI iow ilv ist ien u k := rfl
theorem lvI_t {iow ilv ist ien : Nat → Int} {u : Int} {k : Nat} (h : covB ist ien k u = true) : zup (lvI iow ilv ist ien u k) (iow k).toNat (max (lvI iow ilv ist ien u k (iow k).toNat) (ilv k)) = lvI iow ilv ist ien u (k + 1) := by rw [lvI_s, if_pos h]
theorem lvI_f {iow ilv ist ien : Nat → Int} {u : Int} {k : Nat} (h : covB ist ien k u = false) : lvI iow ilv ist ien u k = lvI iow ilv ist ien u (k + 1) := by rw [lvI_s, if_neg (by rw [h]; exact Bool.false_ne_true)]
theorem zup_r {f : Nat → Int} {k : Nat} {v lo hi : Int} (hf : ∀ j, lo ≤ f j ∧ f j ≤ hi) (hv : lo ≤ v ∧ v ≤ hi) : ∀ j, lo ≤ zup f k v j ∧ zup f k v j ≤ hi := fun j => by
  by_cases h : j = k
  · subst h; rw [zup_s]; exact hv
  · rw [zup_n h]; exact hf j
theorem lvI_r {iow ilv ist ien : Nat → Int} {u : Int} (h : ∀ j, 0 ≤ ilv j ∧ ilv j ≤ 3) : ∀ k j, 0 ≤ lvI iow ilv ist ien u k j ∧ lvI iow ilv ist ien u k j ≤ 3
  | 0, j => by show (0 : Int) ≤ 0 ∧ (0 : Int) ≤ 3; omega
  | k + 1, j => by
    have h1 := lvI_r h k (iow := iow) (ist := ist) (ien := ien) (u := u)
    rw [lvI_s]
    split
    · exact zup_r h1 (by have := h1 (iow k).toNat; have := h k; omega) j
    · exact h1 j
abbrev LVS : Type := (Nat → Int) × (Nat → Int) × (Nat → Int) × (Nat → Int)
def lvC (g : Nat → Bool) (rl : Nat → Int) (c : Nat) (s : LVS) : Nat → Int := if g c = true then zup s.1 c (if rl c = 119 then s.2.1 c else lvlZ (s.2.2.1 c / s.2.2.2 c)) else s.1
def stC (g : Nat → Bool) (par wt rl : Nat → Int) (c : Nat) (s : LVS) : LVS := if par c = -1 then (lvC g rl c s, s.2.1, s.2.2.1, s.2.2.2) else (lvC g rl c s, zup s.2.1 (par c).toNat (max (s.2.1 (par c).toNat) (lvC g rl c s c)), zup s.2.2.1 (par c).toNat (s.2.2.1 (par c).toNat + lossZ (lvC g rl c s c) * wt c), zup s.2.2.2 (par c).toNat (s.2.2.2 (par c).toNat + wt c))
def fdm (g : Nat → Bool) (par wt rl : Nat → Int) (l0 : Nat → Int) (nc : Nat) : Nat → LVS
  | 0 => (l0, (fun _ => 0), (fun _ => 0), (fun _ => 0))
  | m + 1 => stC g par wt rl (nc - 1 - m) (fdm g par wt rl l0 nc m)
def fD (g : Nat → Bool) (par wt rl : Nat → Int) (l0 : Nat → Int) (nc k : Nat) : LVS := fdm g par wt rl l0 nc (nc - k)
theorem fD_s {g : Nat → Bool} {par wt rl l0 : Nat → Int} {nc c : Nat} (h : c < nc) : fD g par wt rl l0 nc c = stC g par wt rl c (fD g par wt rl l0 nc (c + 1)) := by
  unfold fD
  rw [show nc - c = (nc - (c + 1)) + 1 by omega]
  show stC g par wt rl (nc - 1 - (nc - (c + 1))) _ = _
  rw [show nc - 1 - (nc - (c + 1)) = c by omega]
theorem fD_n {g : Nat → Bool} {par wt rl l0 : Nat → Int} {nc : Nat} : fD g par wt rl l0 nc nc = (l0, (fun _ => 0), (fun _ => 0), (fun _ => 0)) := by
  unfold fD; rw [Nat.sub_self]; rfl
def LVr (m : Nat) (s : LVS) : Prop := (∀ j, 0 ≤ s.1 j ∧ s.1 j ≤ 3) ∧ (∀ j, 0 ≤ s.2.1 j ∧ s.2.1 j ≤ 3) ∧ (∀ j, 0 ≤ s.2.2.1 j ∧ s.2.2.1 j ≤ 900 * m) ∧ (∀ j, 0 ≤ s.2.2.2 j ∧ s.2.2.2 j ≤ 9 * m) ∧ ∀ j, s.2.2.1 j ≤ 100 * s.2.2.2 j
theorem lvC_r {g : Nat → Bool} {rl : Nat → Int} {c m : Nat} {s : LVS} (h : LVr m s) : ∀ j, 0 ≤ lvC g rl c s j ∧ lvC g rl c s j ≤ 3 := by
  unfold lvC
  split
  · exact zup_r h.1 (by split; exact h.2.1 c; exact lvlZ_r)
  · exact h.1
theorem lw_r {v w : Int} (hw : 0 ≤ w ∧ w ≤ 9) : 0 ≤ lossZ v * w ∧ lossZ v * w ≤ 900 ∧ lossZ v * w ≤ 100 * w := by
  unfold lossZ; repeat (first | omega | split)
theorem stC_r {g : Nat → Bool} {par wt rl : Nat → Int} {c m : Nat} {s : LVS} (hw : ∀ j, 0 ≤ wt j ∧ wt j ≤ 9) (h : LVr m s) : LVr (m + 1) (stC g par wt rl c s) := by
  have h1 := lvC_r (g := g) (rl := rl) (c := c) h
  obtain ⟨a1, a2, a3, a4, a5⟩ := h
  unfold stC
  split
  · exact ⟨h1, a2, fun j => by have := a3 j; push_cast; exact ⟨this.1, by show s.2.2.1 j ≤ _; omega⟩, fun j => by have := a4 j; push_cast; exact ⟨this.1, by show s.2.2.2 j ≤ _; omega⟩, a5⟩
  · refine ⟨h1, zup_r a2 (by have := a2 (par c).toNat; have := h1 c; omega), ?_, ?_, ?_⟩
    · exact zup_r (fun j => by have := a3 j; push_cast; omega) (by have := a3 (par c).toNat; have := lw_r (v := lvC g rl c s c) (hw c); push_cast; omega)
    · exact zup_r (fun j => by have := a4 j; push_cast; omega) (by have := a4 (par c).toNat; have := hw c; push_cast; omega)
    · intro j
      show zup s.2.2.1 (par c).toNat _ j ≤ 100 * zup s.2.2.2 (par c).toNat _ j
      by_cases hj : j = (par c).toNat
      · rw [hj, zup_s, zup_s]
        have := a5 (par c).toNat
        have := lw_r (v := lvC g rl c s c) (hw c)
        omega
      · rw [zup_n hj, zup_n hj]; exact a5 j
theorem fD_r {g : Nat → Bool} {par wt rl l0 : Nat → Int} {nc : Nat} (hw : ∀ j, 0 ≤ wt j ∧ wt j ≤ 9) (h0 : ∀ j, 0 ≤ l0 j ∧ l0 j ≤ 3) (hn : nc ≤ 12) (k : Nat) : LVr 12 (fD g par wt rl l0 nc k) := by
  have key : ∀ m, LVr m (fdm g par wt rl l0 nc m) := by
    intro m
    induction m with
    | zero =>
      refine ⟨h0, fun j => ?_, fun j => ?_, fun j => ?_, fun j => ?_⟩
      · show (0 : Int) ≤ 0 ∧ (0 : Int) ≤ 3; omega
      · show (0 : Int) ≤ 0 ∧ (0 : Int) ≤ _; omega
      · show (0 : Int) ≤ 0 ∧ (0 : Int) ≤ _; omega
      · show (0 : Int) ≤ 100 * 0; omega
    | succ m ih => exact stC_r hw ih
  have h := key (nc - k)
  obtain ⟨a1, a2, a3, a4, a5⟩ := h
  exact ⟨a1, a2, fun j => by have := a3 j; show 0 ≤ (fdm g par wt rl l0 nc (nc - k)).2.2.1 j ∧ (fdm g par wt rl l0 nc (nc - k)).2.2.1 j ≤ _; omega, fun j => by have := a4 j; show 0 ≤ (fdm g par wt rl l0 nc (nc - k)).2.2.2 j ∧ (fdm g par wt rl l0 nc (nc - k)).2.2.2 j ≤ _; omega, a5⟩
theorem dv_r {a b : Int} (h1 : 0 ≤ a) (h2 : 0 ≤ b) (h3 : a ≤ 100 * b) : 0 ≤ a / b ∧ a / b ≤ 100 := by
  by_cases hb : b = 0
  · subst hb; simp
  · refine ⟨Int.ediv_nonneg h1 h2, ?_⟩
    have : a / b ≤ (100 * b) / b := Int.ediv_le_ediv (by omega) h3
    rw [Int.mul_ediv_cancel _ hb] at this
    exact this
/-- the leaf with the greatest harm -/
def wlF (g : Nat → Bool) (lev wt : Nat → Int) : Nat → Int × Int
  | 0 => (-1, 0)
  | n + 1 => if (wlF g lev wt n).2 < lossZ (lev n) * wt n ∧ g n = false then (n, lossZ (lev n) * wt n) else wlF g lev wt n
theorem wlF_s (g : Nat → Bool) (lev wt : Nat → Int) (n : Nat) : wlF g lev wt (n + 1) = if (wlF g lev wt n).2 < lossZ (lev n) * wt n ∧ g n = false then ((n : Int), lossZ (lev n) * wt n) else wlF g lev wt n := rfl
theorem wlF_t {g : Nat → Bool} {lev wt : Nat → Int} {n : Nat} (h1 : (wlF g lev wt n).2 < lossZ (lev n) * wt n) (h2 : g n = false) : wlF g lev wt (n + 1) = ((n : Int), lossZ (lev n) * wt n) := by rw [wlF_s, if_pos ⟨h1, h2⟩]
theorem wlF_f1 {g : Nat → Bool} {lev wt : Nat → Int} {n : Nat} (h1 : lossZ (lev n) * wt n ≤ (wlF g lev wt n).2) : wlF g lev wt (n + 1) = wlF g lev wt n := by rw [wlF_s, if_neg (fun z => by omega)]
theorem wlF_f2 {g : Nat → Bool} {lev wt : Nat → Int} {n : Nat} (h2 : g n = true) : wlF g lev wt (n + 1) = wlF g lev wt n := by rw [wlF_s, if_neg (fun z => by rw [h2] at z; cases z.2)]
theorem wlF_r {g : Nat → Bool} {lev wt : Nat → Int} (hw : ∀ j, 0 ≤ wt j ∧ wt j ≤ 9) : ∀ n : Nat, -1 ≤ (wlF g lev wt n).1 ∧ (wlF g lev wt n).1 < n ∧ 0 ≤ (wlF g lev wt n).2 ∧ (wlF g lev wt n).2 ≤ 900
  | 0 => by show (-1 : Int) ≤ -1 ∧ (-1 : Int) < 0 ∧ (0 : Int) ≤ 0 ∧ (0 : Int) ≤ 900; omega
  | n + 1 => by
    have h := wlF_r hw n (g := g) (lev := lev)
    have h2 := lw_r (v := lev n) (hw n)
    rw [wlF_s]
    split
    · push_cast; exact ⟨by show (-1 : Int) ≤ n; omega, by show (n : Int) < n + 1; omega, h2.1, h2.2.1⟩
    · push_cast; omega
/-- the mails, four facts of each -/
def mlQ (fac : Nat → Int) (nm : Nat) (mp mc ml mm : Nat → Int) : Prop := ∀ k, k < nm → fac (k * 4 + 0) = mp k ∧ fac (k * 4 + 1) = mc k ∧ fac (k * 4 + 2) = ml k ∧ fac (k * 4 + 3) = mm k
theorem mlQ_s {fac f9 : Nat → Int} {nm n4 : Nat} {mp mc ml mm : Nat → Int} {a b c d : Int} (hn : n4 = nm * 4) (h : mlQ fac nm mp mc ml mm) (h9 : ∀ j, j < nm * 4 → f9 j = fac j) : mlQ (zup (zup (zup (zup f9 (n4 + 0) a) (n4 + 1) b) (n4 + 2) c) (n4 + 3) d) (nm + 1) (zup mp nm a) (zup mc nm b) (zup ml nm c) (zup mm nm d) := by
  subst hn
  intro k hk
  by_cases he : k = nm
  · subst he
    refine ⟨?_, ?_, ?_, ?_⟩
    · rw [zup_n (by omega), zup_n (by omega), zup_n (by omega), zup_s, zup_s]
    · rw [zup_n (by omega), zup_n (by omega), zup_s, zup_s]
    · rw [zup_n (by omega), zup_s, zup_s]
    · rw [zup_s, zup_s]
  · obtain ⟨h1, h2, h3, h4⟩ := h k (by omega)
    refine ⟨?_, ?_, ?_, ?_⟩
    · rw [zup_n (by omega), zup_n (by omega), zup_n (by omega), zup_n (by omega), zup_n (by omega), h9 _ (by omega), h1]
    · rw [zup_n (by omega), zup_n (by omega), zup_n (by omega), zup_n (by omega), zup_n (by omega), h9 _ (by omega), h2]
    · rw [zup_n (by omega), zup_n (by omega), zup_n (by omega), zup_n (by omega), zup_n (by omega), h9 _ (by omega), h3]
    · rw [zup_n (by omega), zup_n (by omega), zup_n (by omega), zup_n (by omega), zup_n (by omega), h9 _ (by omega), h4]
theorem zuN_s (f : Nat → Nat) (k v : Nat) : zuN f k v k = v := by unfold zuN; rw [if_pos rfl]
theorem zuN_n {f : Nat → Nat} {k v j : Nat} (h : j ≠ k) : zuN f k v j = f j := by unfold zuN; rw [if_neg h]
/-- the set of a new component and all that it is below -/
def npw (pw : Nat → Nat) (nc : Nat) (a : Int) : Nat := if a = -1 then 2 ^ nc else pw a.toNat ||| 2 ^ nc
theorem npw_r {pw : Nat → Nat} {nc : Nat} {a : Int} (h : a = -1) : npw pw nc a = 2 ^ nc := by unfold npw; rw [if_pos h]
theorem npw_o {pw : Nat → Nat} {nc : Nat} {a : Int} (h : a ≠ -1) : npw pw nc a = pw a.toNat ||| 2 ^ nc := by unfold npw; rw [if_neg h]
theorem npw_lt {pw : Nat → Nat} {nc : Nat} {a : Int} (h : ∀ j, pw j < 4096) (hn : nc < 12) : npw pw nc a < 4096 := by
  have h2 : 2 ^ nc < 4096 := by
    have := Nat.pow_lt_pow_right (a := 2) (by decide) hn
    omega
  unfold npw
  split
  · exact h2
  · exact Nat.or_lt_two_pow (n := 12) (h _) h2
theorem vp_nar_c {r : Int} (h : 0 ≤ r ∧ r < 65536) : vp_nar .char (iI r) = iI r := by
  obtain ⟨n, rfl⟩ : ∃ n : Nat, r = (n : Int) := ⟨r.toNat, by omega⟩
  rw [vp_nar_char, iI_n]
  apply Int32.toBitVec_inj.mp
  apply BitVec.eq_of_toNat_eq
  show (((BitVec.ofNat 32 n).setWidth 16).setWidth 32).toNat = (BitVec.ofNat 32 n).toNat
  simp
  omega
theorem lvC_l {g : Nat → Bool} {rl : Nat → Int} {c : Nat} {s : LVS} (h : g c = false) : lvC g rl c s = s.1 := by unfold lvC; rw [if_neg (by rw [h]; exact Bool.false_ne_true)]
theorem lvC_w {g : Nat → Bool} {rl : Nat → Int} {c : Nat} {s : LVS} (h : g c = true) (h2 : rl c = 119) : lvC g rl c s = zup s.1 c (s.2.1 c) := by unfold lvC; rw [if_pos h, if_pos h2]
theorem lvC_m {g : Nat → Bool} {rl : Nat → Int} {c : Nat} {s : LVS} (h : g c = true) (h2 : rl c ≠ 119) : lvC g rl c s = zup s.1 c (lvlZ (s.2.2.1 c / s.2.2.2 c)) := by unfold lvC; rw [if_pos h, if_neg h2]
theorem stC_n {g : Nat → Bool} {par wt rl : Nat → Int} {c : Nat} {s : LVS} (h : par c = -1) : stC g par wt rl c s = (lvC g rl c s, s.2.1, s.2.2.1, s.2.2.2) := by unfold stC; rw [if_pos h]
theorem stC_p {g : Nat → Bool} {par wt rl : Nat → Int} {c : Nat} {s : LVS} (h : par c ≠ -1) : stC g par wt rl c s = (lvC g rl c s, zup s.2.1 (par c).toNat (max (s.2.1 (par c).toNat) (lvC g rl c s c)), zup s.2.2.1 (par c).toNat (s.2.2.1 (par c).toNat + lossZ (lvC g rl c s c) * wt c), zup s.2.2.2 (par c).toNat (s.2.2.2 (par c).toNat + wt c)) := by unfold stC; rw [if_neg h]
end SQ
