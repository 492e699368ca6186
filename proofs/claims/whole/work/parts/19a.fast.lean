/-! CALLS over wide worlds: the rest is named, not worked out. -/
section KF
theorem kf_pick {α : Type} {f : Nat → Option α} : ∀ {is : List Nat} {wR : List α}, is.map f = wR.map some → is.filterMap f = wR
  | [], [], _ => rfl
  | [], _ :: _, h => by cases h
  | i :: is, [], h => by cases h
  | i :: is, x :: wR, h => by
    rw [List.map_cons, List.map_cons] at h
    obtain ⟨h1, h2⟩ := List.cons.inj h
    rw [List.filterMap_cons, h1, kf_pick h2]
theorem kf_rest {w wR : va_W} {isC isR : List Nat} {n : Nat} (hlen : w.length = n) (hr : (List.range n).filter (fun i => !isC.contains i) = isR) (hp : isR.map (fun i => w[i]?) = wR.map some) : pickW w (restI w isC) = wR := by
  unfold pickW restI
  rw [hlen, hr]
  exact kf_pick hp
variable {X : CX} {G : GX} {lv : List (Nat × Value)} {w w' w1 : va_W} {cs sl pc : Nat} {st : List Value} {r : Option Value} {E : String}
theorem kc_rt9 {is9 isC isR : List Nat} {N9 : Nat} {wR : va_W} {stk' : List Value} {k n : Nat} (hlen : w.length = N9) (hr : (List.range N9).filter (fun i => !isC.contains i) = isR) (hp : isR.map (fun i => w[i]?) = wR.map some) (hst2 : r.toList ++ st = stk') (hn9 : va_nd is9 = true) (hs9 : is9.map (fun i => (wR ++ w1)[i]?) = w'.map some) (kk : KK X G lv w' k n (pc + 3) stk') : ∀ (r' : Option Value) (w1' : va_W), rt r w1 (.inl r') w1' → KK X G lv (pickW w (restI w isC) ++ w1') k n (pc + 3) (r'.toList ++ st) :=
  kc_rt hst2 hn9 (by rw [kf_rest hlen hr hp]; exact hs9) kk
theorem kt_perm9 {is9 isC isR : List Nat} {N9 : Nat} {wR : va_W} {k n : Nat} (hlen : w.length = N9) (hr : (List.range N9).filter (fun i => !isC.contains i) = isR) (hp : isR.map (fun i => w[i]?) = wR.map some) (hn9 : va_nd is9 = true) (hs9 : is9.map (fun i => (wR ++ w1)[i]?) = w'.map some) (kk : KT X G lv w' k n pc E) : KT X G lv (pickW w (restI w isC) ++ w1) k n pc E := by
  rw [kf_rest hlen hr hp]
  exact KT.perm is9 hn9 hs9 kk
end KF
