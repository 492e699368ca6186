/-! THE LAYER: a judgement KK over a context X (a tuple), with locals, world, stack in the open; a contract HC; a row an instruction. -/
section KZ
abbrev GX : Type := va_G × (ClassId × (ClassId × (ClassId × ClassId)))
def tyG (G : GX) : List (ClassId × FieldType) := [(G.2.1, .int), (G.2.2.1, .char), (G.2.2.2.1, .long), (G.2.2.2.2, .double)]
abbrev cI (G : GX) (n : Nat) (f : Nat → Int) : va_E := .inl (G.2.1, n, .inl (fun j => iI (f j)))
abbrev cC (G : GX) (n : Nat) (f : Nat → Int) : va_E := .inl (G.2.2.1, n, .inl (fun j => iI (f j)))
abbrev cL (G : GX) (n : Nat) (f : Nat → Int64) : va_E := .inl (G.2.2.2.1, n, .inr (.inl f))
abbrev cD (G : GX) (n : Nat) (f : Nat → UInt64) : va_E := .inl (G.2.2.2.2, n, .inr (.inr (.inr (.inl f))))
def EXL : List String := ["java/util/NoSuchElementException", "java/lang/IllegalArgumentException", "java/lang/UnsupportedOperationException", "java/lang/IllegalStateException", "java/lang/IndexOutOfBoundsException", "java/lang/ArithmeticException"]
def DCL : List String := ["java/lang/RuntimeException", "java/lang/Exception", "java/lang/Throwable"]
def BLx (E : String) : List Cond := [Cond.castable E E, Cond.declares (Bundle.initS "java/lang/RuntimeException"), Cond.declares (Bundle.initS "java/lang/Exception"), Cond.declares (Bundle.initS "java/lang/Throwable")]
def nstL : List (String × Nat × MethodName) := [("Statusboard", 18, ⟨"Statusboard$Persons", "<init>", "()V"⟩), ("Statusboard", 25, ⟨"Statusboard$Incidents", "<init>", "()V"⟩), ("Statusboard", 32, ⟨"Statusboard$Maintenance", "<init>", "()V"⟩), ("Statusboard", 39, ⟨"Statusboard$Mails", "<init>", "()V"⟩), ("Statusboard", 46, ⟨"Statusboard$Levels", "<init>", "()V"⟩), ("Statusboard", 9, ⟨"Statusboard$Tree", "<init>", "()V"⟩), ("Statusboard$Incidents", 39, ⟨"Statusboard", "nearer", "(III)I"⟩), ("Statusboard$Levels", 62, ⟨"Statusboard", "levelOfMeanLoss", "(I)I"⟩), ("Statusboard$Levels", 81, ⟨"Statusboard", "lossOf", "(I)I"⟩), ("Statusboard$Maintenance", 31, ⟨"Statusboard", "nearer", "(III)I"⟩)]
def strL : List (Nat × String) := [(67, "the rule is neither w nor s"), (78, "the parent has incidents"), (86, "there are 12 components"), (101, "there are 6 people"), (113, "the person has subscribed to it"), (122, "the person has not subscribed to it"), (131, "the component is a group"), (134, "there are 20 incidents"), (152, "the incident is resolved"), (163, "the incident covers no minutes"), (172, "both incidents belong to the same case"), (186, "the minute behind the last one is out of range"), (189, "there are 8 times of maintenance"), (194, "no such maintenance"), (203, "the maintenance has begun or has no minutes"), (205, "the number of minutes is out of range"), (207, "the present minute would be greater than 9999"), (220, "no such index below the component"), (226, "no such index on the path"), (242, "the component is a leaf"), (251, "no leaf is down"), (262, "there are no counted minutes"), (269, "there are no past minutes"), (272, "no component has counted minutes"), (277, "no incident is open"), (295, "no such component"), (297, "no such person"), (299, "no such incident"), (301, "no such mail"), (303, "the weight is out of range"), (305, "the level is out of range"), (307, "the minute is out of range"), (309, "the month is out of range")]
/-- what every method may take as given, of the tables and of what no method writes -/
def ENV (G : GX) (A : Nat → Prop) (U : State) (H : Heap) : Prop :=
  va_K G.1 vwCl (tyG G) U ∧ vx_Zq Bundle.tN "UNASSIGNED_STACK" Bundle.steD A U H ∧ vx_Zq Bundle.tN "SUPPRESSED_SENTINEL" Bundle.listD A U H ∧ (∀ q ∈ strL, ∃ a : Nat, vk_R "Statusboard" q.1 q.2 a U) ∧ (∀ q ∈ nstL, va_Nw (.methodLinkNest q.1 q.2.1 q.2.2 "Statusboard") U) ∧ (∀ E ∈ EXL, va_Nw (.castable E E) U) ∧ (∀ n ∈ DCL, va_Nw (.declares (Bundle.initS n)) U) ∧ ∀ E ∈ EXL, ∀ F ∈ EXL, E ≠ F → va_Nc E F U
theorem ENV.warm {G : GX} {A : Nat → Prop} {s U : State} {H : Heap} (hW : s.WarmedH U.vm) (h : ENV G A s H) : ENV G A U H :=
  ⟨va_K.moved hW.alike h.1, h.2.1.moved hW.alike, h.2.2.1.moved hW.alike, fun q hq => by obtain ⟨a, ha⟩ := h.2.2.2.1 q hq; exact ⟨a, ha.warm hW⟩, fun q hq => va_Nw.warmM hW (h.2.2.2.2.1 q hq), fun E hE => va_Nw.warmC hW (h.2.2.2.2.2.1 E hE), fun n hn => va_Nw.warmD hW (h.2.2.2.2.2.2.1 n hn), fun E hE F hF hne => (h.2.2.2.2.2.2.2 E hE F hF hne).moved hW.alike⟩
theorem ENV.narrow {G : GX} {A B : Nat → Prop} {U : State} {H : Heap} (h : ENV G A U H) (hAB : ∀ q, B q → A q) : ENV G B U H :=
  ⟨h.1, h.2.1.narrow hAB, h.2.2.1.narrow hAB, h.2.2.2⟩
theorem ENV.kept {G : GX} {A : Nat → Prop} {U : State} {H H1 : Heap} (h : ENV G A U H) (hq : ∀ a : Nat, a < H.size → ¬ A a → H1[a]? = H[a]?) : ENV G A U H1 :=
  ⟨h.1, h.2.1.kept hq, h.2.2.1.kept hq, h.2.2.2⟩
abbrev CX : Type := Program × Launch × Env × Room × State × MethodId × Array Value × List Frame × Method × Code × (Nat → Prop) × (State → Prop) × Nat
def FX (X : CX) (l0 : Launch) (G : GX) (cc : ByteArray) (Ts : List Cond) (y : MethodName) (nL fr lo mc ms : Nat) (tb : List ExceptionTableEntry) : Prop :=
  match X with
  | (p, l, _, R, s, m, args, _, meth, c, A, _, n) => p.tables.exec = Jvm.exec ∧ c.code = cc ∧ c.maxLocals = nL ∧ n = nL ∧ s.vm.findClass y.cls = some m.cls ∧ (∀ w ∈ Ts, w.before args s = true) ∧ ENV G A s s.heap ∧ (∀ q : Nat, s.heap.size ≤ q → A q) ∧ meth.locks = false ∧ meth.name = y.name ∧ R = { frames := fr, cells := mc, slots := ms, locals := lo } ∧ c.exceptionTable.toList = tb ∧ l.stackTraces = false ∧ l = l0
def KK (X : CX) (G : GX) (lv : List (Nat × Value)) (w : va_W) (cs sl pc : Nat) (st : List Value) : Prop :=
  match X with
  | (p, l, e, R, s, m, args, below, meth, c, A, Q, n) => ∀ (H : Heap) (locs : List Loc) (ls : Array Slot), va_P G.1 vwCl w H → va_D A w → va_S A s.heap H locs → lv_has ls n lv → W p l e R s m args below meth c H locs cs sl Q (F0 m pc ls st)
/-- an exception of class E on its way out of the instruction at pc -/
def KT (X : CX) (G : GX) (lv : List (Nat × Value)) (w : va_W) (cs sl pc : Nat) (E : String) : Prop :=
  match X with
  | (p, l, e, R, s, m, args, below, meth, c, A, Q, n) => ∀ (H : Heap) (locs : List Loc) (ls : Array Slot) (ce : Cell) (q : Addr) (st : List Value), va_P G.1 vwCl w H → va_D A w → va_S A s.heap H locs → lv_has ls n lv → H[q]? = some ce → ce.vm = .none → s.vm.findClass E = some ce.cls → vx_W p l e R s m args below meth c H locs cs sl Q (F0 m pc ls st) q
/-- what a method answers: a value, or the name of what it throws -/
abbrev OC : Type := Option Value ⊕ String
def QC (G : GX) (P : OC → va_W → Prop) (A : Nat → Prop) : Array Value → State → Outcome → State → Prop := fun _ st oc t => (∃ (r : Option Value) (w' : va_W), oc = .returned r ∧ P (.inl r) w' ∧ va_P G.1 vwCl w' t.heap ∧ va_D A w') ∧ va_F A st t
def XQ (G : GX) (P : OC → va_W → Prop) (A : Nat → Prop) : String → State → State → Prop := fun E st t => (∃ w' : va_W, P (.inr E) w' ∧ va_P G.1 vwCl w' t.heap ∧ va_D A w') ∧ va_F A st t
def PC (G : GX) (av : List Value) (w : va_W) (sz : Nat) : Array Value → State → Prop := va_Pc av (fun U => U.heap.size = sz ∧ va_P G.1 vwCl w U.heap ∧ va_D (fun _ => True) w ∧ ENV G (va_A w sz) U U.heap)
/-- THE CONTRACT: from a world w, called with av, method y answers as P says, with at most mc cells of ms places new -/
def HC (G : GX) (l : Launch) (y : MethodName) (ws : List Cond) (fr lo mc ms : Nat) (av : List Value) (w : va_W) (P : OC → va_W → Prop) : Prop :=
  ∀ sz : Nat, vx_Met l y ws { frames := fr, cells := mc, slots := ms, locals := lo } (PC G av w sz) (QC G P (va_A w sz)) (XQ G P (va_A w sz)) mc ms (va_A w sz)
/-- it returns r, and the world is w1 -/
def rt (r : Option Value) (w1 : va_W) : OC → va_W → Prop := fun o w => o = .inl r ∧ w = w1
/-- it throws E, and the world is w1 -/
def tw (E : String) (w1 : va_W) : OC → va_W → Prop := fun o w => o = .inr E ∧ w = w1
def RX (X : CX) (G : GX) (ret : Option FieldType) (P : OC → va_W → Prop) (mc ms : Nat) : Prop :=
  match X with
  | (_, _, _, _, s, _, args, below, meth, _, A, Q, _) => meth.sig.returnType = ret ∧ Q = vx_MQ below (QC G P A) (XQ G P A) args s mc ms A
theorem PC_blind (G : GX) (av : List Value) (w : va_W) (sz : Nat) : FrameBlind (PC G av w sz) := fun a U g mk h => by
  obtain ⟨h1, h2, h3, h4, h5⟩ := h
  exact ⟨h1, h2, h3, h4, ENV.warm (U := U.calling g mk a) (State.WarmedH.refl U) h5⟩
theorem kz_start {G : GX} {l : Launch} {y : MethodName} {ws ws' : List Cond} {fr lo mc ms : Nat} {av : List Value} {w : va_W} {P : OC → va_W → Prop} (cc : ByteArray) (maxL : Nat) (ret : Option FieldType) (lv0 : List (Nat × Value)) (hl : l.stackTraces = false) (hy : plainName y.cls = true) (hw : ws = Cond.code y cc maxL ret :: ws') (hn : (lg_sl av).length ≤ maxL) (hlv : lv_args 0 av = lv0)
    (body : ∀ X : CX, FX X l G cc ws y maxL fr lo mc ms [] → RX X G ret P mc ms → KK X G lv0 w 0 0 0 []) : HC G l y ws fr lo mc ms av w P := by
  intro sz
  refine vx_ofW (cc := cc) (maxL := maxL) (ret := ret) hy hw ?_
  intro p e s m args below meth c s₁ B hml hex hv
  obtain ⟨rfl, hsz, hP, hD0, hE⟩ := hv
  subst hsz
  have hl0 := lv_entry av (n := maxL) hn
  rw [hlv] at hl0
  rw [lg_entry_eq]
  have hex2 : c.exceptionTable.toList = [] := List.eq_nil_iff_forall_not_mem.mpr (fun x hx => hex x hx)
  exact body (p, l, e, _, s, m, _, below, meth, c, va_A w s.heap.size, _, maxL)
    ⟨B.exec, B.bytes, hml, rfl, findClass_of_methodNamed B.named, atoms_spec (ws := ws) B.pre, hE, fun q h => Or.inr h, B.notSynchronized, (name_of_methodNamed B.named B.method).1, rfl, hex2, hl, rfl⟩
    ⟨B.returns, rfl⟩ s.heap [] _ hP hD0.self va_S.rf hl0
theorem kz_startH {G : GX} {l : Launch} {y : MethodName} {ws ws' : List Cond} {fr lo mc ms : Nat} {av : List Value} {w : va_W} {P : OC → va_W → Prop} (cc : ByteArray) (maxL : Nat) (ret : Option FieldType) (hh : List (Nat × Nat × Nat × Nat)) (lv0 : List (Nat × Value)) (hl : l.stackTraces = false) (hy : plainName y.cls = true) (hw : ws = Cond.codeWith y cc maxL ret hh :: ws') (hn : (lg_sl av).length ≤ maxL) (hlv : lv_args 0 av = lv0)
    (body : ∀ X : CX, FX X l G cc ws y maxL fr lo mc ms (tableOf hh) → RX X G ret P mc ms → KK X G lv0 w 0 0 0 []) : HC G l y ws fr lo mc ms av w P := by
  intro sz
  refine vx_ofWH (cc := cc) (maxL := maxL) (ret := ret) (hh := hh) hy hw ?_
  intro p e s m args below meth c s₁ B hml hv
  obtain ⟨rfl, hsz, hP, hD0, hE⟩ := hv
  subst hsz
  have hl0 := lv_entry av (n := maxL) hn
  rw [hlv] at hl0
  rw [lg_entry_eq]
  have hts := atoms_spec (ws := ws) B.pre
  exact body (p, l, e, _, s, m, _, below, meth, c, va_A w s.heap.size, _, maxL)
    ⟨B.exec, B.bytes, hml, rfl, findClass_of_methodNamed B.named, hts, hE, fun q h => Or.inr h, B.notSynchronized, (name_of_methodNamed B.named B.method).1, rfl, vx_table (x := y) B (hts _ (by rw [hw]; exact List.mem_cons_self)), hl, rfl⟩
    ⟨B.returns, rfl⟩ s.heap [] _ hP hD0.self va_S.rf hl0
variable {X : CX} {l0 : Launch} {G : GX} {cc : ByteArray} {Ts : List Cond} {y : MethodName} {nL fr lo mc ms : Nat} {tb : List ExceptionTableEntry} {lv lv' : List (Nat × Value)} {w w' : va_W} {cs sl pc : Nat} {st : List Value} {P : OC → va_W → Prop} {ret : Option FieldType}
theorem kz_iload_n (fx : FX X l0 G cc Ts y nL fr lo mc ms tb) {k : Fin 4} {x : Int32} (q : Nat) (d : decode cc pc = .ok (.iload_n k, 1)) (h : lv[q]? = some ((k : Nat), .int x)) (kk : KK X G lv w cs sl (pc + 1) (.int x :: st)) : KK X G lv w cs sl pc st := by
  obtain ⟨p, l, e, R, s, m, args, below, meth, c, A, Q, nn⟩ := X
  obtain ⟨hx, hb, hml, rfl, hown, hts, hE, hA, hlocks, hname, hR, htb, hlt, rfl⟩ := fx
  intro H locs ls hP hD hS hl
  exact lv_iload_n hx hb d rfl (lv_at hl q h) (kk H locs ls hP hD hS hl)
theorem kz_iload (fx : FX X l0 G cc Ts y nL fr lo mc ms tb) {i : Nat} {x : Int32} (q : Nat) (d : decode cc pc = .ok (.iload i, 2)) (h : lv[q]? = some (i, .int x)) (kk : KK X G lv w cs sl (pc + 2) (.int x :: st)) : KK X G lv w cs sl pc st := by
  obtain ⟨p, l, e, R, s, m, args, below, meth, c, A, Q, nn⟩ := X
  obtain ⟨hx, hb, hml, rfl, hown, hts, hE, hA, hlocks, hname, hR, htb, hlt, rfl⟩ := fx
  intro H locs ls hP hD hS hl
  exact lv_iload hx hb d (lv_at hl q h) (kk H locs ls hP hD hS hl)
theorem kz_aload_n (fx : FX X l0 G cc Ts y nL fr lo mc ms tb) {k : Fin 4} {x : Nat} (q : Nat) (d : decode cc pc = .ok (.aload_n k, 1)) (h : lv[q]? = some ((k : Nat), .ref x)) (kk : KK X G lv w cs sl (pc + 1) (.ref x :: st)) : KK X G lv w cs sl pc st := by
  obtain ⟨p, l, e, R, s, m, args, below, meth, c, A, Q, nn⟩ := X
  obtain ⟨hx, hb, hml, rfl, hown, hts, hE, hA, hlocks, hname, hR, htb, hlt, rfl⟩ := fx
  intro H locs ls hP hD hS hl
  exact lv_aload_n hx hb d rfl (lv_at hl q h) (kk H locs ls hP hD hS hl)
theorem kz_aload (fx : FX X l0 G cc Ts y nL fr lo mc ms tb) {i : Nat} {x : Nat} (q : Nat) (d : decode cc pc = .ok (.aload i, 2)) (h : lv[q]? = some (i, .ref x)) (kk : KK X G lv w cs sl (pc + 2) (.ref x :: st)) : KK X G lv w cs sl pc st := by
  obtain ⟨p, l, e, R, s, m, args, below, meth, c, A, Q, nn⟩ := X
  obtain ⟨hx, hb, hml, rfl, hown, hts, hE, hA, hlocks, hname, hR, htb, hlt, rfl⟩ := fx
  intro H locs ls hP hD hS hl
  exact lv_aload hx hb d (lv_at hl q h) (kk H locs ls hP hD hS hl)
theorem kz_dload (fx : FX X l0 G cc Ts y nL fr lo mc ms tb) {i : Nat} {x : UInt64} (q : Nat) (d : decode cc pc = .ok (.dload i, 2)) (h : lv[q]? = some (i, .double x)) (kk : KK X G lv w cs sl (pc + 2) (.double x :: st)) : KK X G lv w cs sl pc st := by
  obtain ⟨p, l, e, R, s, m, args, below, meth, c, A, Q, nn⟩ := X
  obtain ⟨hx, hb, hml, rfl, hown, hts, hE, hA, hlocks, hname, hR, htb, hlt, rfl⟩ := fx
  intro H locs ls hP hD hS hl
  exact lv_dload hx hb d (lv_at hl q h) (kk H locs ls hP hD hS hl)
theorem kz_fload (fx : FX X l0 G cc Ts y nL fr lo mc ms tb) {i : Nat} {x : UInt32} (q : Nat) (d : decode cc pc = .ok (.fload i, 2)) (h : lv[q]? = some (i, .float x)) (kk : KK X G lv w cs sl (pc + 2) (.float x :: st)) : KK X G lv w cs sl pc st := by
  obtain ⟨p, l, e, R, s, m, args, below, meth, c, A, Q, nn⟩ := X
  obtain ⟨hx, hb, hml, rfl, hown, hts, hE, hA, hlocks, hname, hR, htb, hlt, rfl⟩ := fx
  intro H locs ls hP hD hS hl
  exact lv_fload hx hb d (lv_at hl q h) (kk H locs ls hP hD hS hl)
theorem kz_istore_n (fx : FX X l0 G cc Ts y nL fr lo mc ms tb) {k : Fin 4} {i : Nat} {x : Int32} (d : decode cc pc = .ok (.istore_n k, 1)) (hi : (k : Nat) = i) (hn : i < nL) (hl2 : (i, Value.int x) :: lv.filter (fun q => !(q.1 == i) && !(q.1 + 1 == i && q.2.category == 2)) = lv') (kk : KK X G lv' w cs sl (pc + 1) st) : KK X G lv w cs sl pc (.int x :: st) := by
  obtain ⟨p, l, e, R, s, m, args, below, meth, c, A, Q, nn⟩ := X
  obtain ⟨hx, hb, hml, rfl, hown, hts, hE, hA, hlocks, hname, hR, htb, hlt, rfl⟩ := fx
  intro H locs ls hP hD hS hl
  exact lv_istore_n hx hb d hi hl hn hl2 (fun ls hl => kk H locs ls hP hD hS hl)
theorem kz_astore_n (fx : FX X l0 G cc Ts y nL fr lo mc ms tb) {k : Fin 4} {i : Nat} {x : Nat} (d : decode cc pc = .ok (.astore_n k, 1)) (hi : (k : Nat) = i) (hn : i < nL) (hl2 : (i, Value.ref x) :: lv.filter (fun q => !(q.1 == i) && !(q.1 + 1 == i && q.2.category == 2)) = lv') (kk : KK X G lv' w cs sl (pc + 1) st) : KK X G lv w cs sl pc (.ref x :: st) := by
  obtain ⟨p, l, e, R, s, m, args, below, meth, c, A, Q, nn⟩ := X
  obtain ⟨hx, hb, hml, rfl, hown, hts, hE, hA, hlocks, hname, hR, htb, hlt, rfl⟩ := fx
  intro H locs ls hP hD hS hl
  exact lv_astore_n hx hb d hi hl hn hl2 (fun ls hl => kk H locs ls hP hD hS hl)
theorem kz_istore (fx : FX X l0 G cc Ts y nL fr lo mc ms tb) {i : Nat} {x : Int32} (d : decode cc pc = .ok (.istore i, 2)) (hn : i < nL) (hl2 : (i, Value.int x) :: lv.filter (fun q => !(q.1 == i) && !(q.1 + 1 == i && q.2.category == 2)) = lv') (kk : KK X G lv' w cs sl (pc + 2) st) : KK X G lv w cs sl pc (.int x :: st) := by
  obtain ⟨p, l, e, R, s, m, args, below, meth, c, A, Q, nn⟩ := X
  obtain ⟨hx, hb, hml, rfl, hown, hts, hE, hA, hlocks, hname, hR, htb, hlt, rfl⟩ := fx
  intro H locs ls hP hD hS hl
  exact lv_istore hx hb d hl hn hl2 (fun ls hl => kk H locs ls hP hD hS hl)
theorem kz_astore (fx : FX X l0 G cc Ts y nL fr lo mc ms tb) {i : Nat} {x : Nat} (d : decode cc pc = .ok (.astore i, 2)) (hn : i < nL) (hl2 : (i, Value.ref x) :: lv.filter (fun q => !(q.1 == i) && !(q.1 + 1 == i && q.2.category == 2)) = lv') (kk : KK X G lv' w cs sl (pc + 2) st) : KK X G lv w cs sl pc (.ref x :: st) := by
  obtain ⟨p, l, e, R, s, m, args, below, meth, c, A, Q, nn⟩ := X
  obtain ⟨hx, hb, hml, rfl, hown, hts, hE, hA, hlocks, hname, hR, htb, hlt, rfl⟩ := fx
  intro H locs ls hP hD hS hl
  exact lv_astore hx hb d hl hn hl2 (fun ls hl => kk H locs ls hP hD hS hl)
theorem kz_fstore (fx : FX X l0 G cc Ts y nL fr lo mc ms tb) {i : Nat} {x : UInt32} (d : decode cc pc = .ok (.fstore i, 2)) (hn : i < nL) (hl2 : (i, Value.float x) :: lv.filter (fun q => !(q.1 == i) && !(q.1 + 1 == i && q.2.category == 2)) = lv') (kk : KK X G lv' w cs sl (pc + 2) st) : KK X G lv w cs sl pc (.float x :: st) := by
  obtain ⟨p, l, e, R, s, m, args, below, meth, c, A, Q, nn⟩ := X
  obtain ⟨hx, hb, hml, rfl, hown, hts, hE, hA, hlocks, hname, hR, htb, hlt, rfl⟩ := fx
  intro H locs ls hP hD hS hl
  exact lv_fstore hx hb d hl hn hl2 (fun ls hl => kk H locs ls hP hD hS hl)
theorem kz_dstore (fx : FX X l0 G cc Ts y nL fr lo mc ms tb) {i : Nat} {x : UInt64} (d : decode cc pc = .ok (.dstore i, 2)) (hn : i + 1 < nL) (hl2 : (i, Value.double x) :: lv.filter (fun q => !(q.1 == i) && (!(q.1 == i + 1) && !(q.1 + 1 == i && q.2.category == 2))) = lv') (kk : KK X G lv' w cs sl (pc + 2) st) : KK X G lv w cs sl pc (.double x :: st) := by
  obtain ⟨p, l, e, R, s, m, args, below, meth, c, A, Q, nn⟩ := X
  obtain ⟨hx, hb, hml, rfl, hown, hts, hE, hA, hlocks, hname, hR, htb, hlt, rfl⟩ := fx
  intro H locs ls hP hD hS hl
  exact lv_dstore hx hb d hl hn hl2 (fun ls hl => kk H locs ls hP hD hS hl)
theorem kz_iinc (fx : FX X l0 G cc Ts y nL fr lo mc ms tb) {i k : Nat} {v z : Int} (d : decode cc pc = .ok (.iinc i v, 3)) (h : lv[k]? = some (i, .int (iI z))) (hn : i < nL) (hl2 : (i, Value.int (iI (z + v))) :: lv.filter (fun q => !(q.1 == i) && !(q.1 + 1 == i && q.2.category == 2)) = lv') (kk : KK X G lv' w cs sl (pc + 3) st) : KK X G lv w cs sl pc st := by
  obtain ⟨p, l, e, R, s, m, args, below, meth, c, A, Q, nn⟩ := X
  obtain ⟨hx, hb, hml, rfl, hown, hts, hE, hA, hlocks, hname, hR, htb, hlt, rfl⟩ := fx
  intro H locs ls hP hD hS hl
  exact lv_iinc hx hb d hl h (v := iI (z + v)) (iI_add z v) hn hl2 (fun ls hl => kk H locs ls hP hD hS hl)
theorem kz_iconst (fx : FX X l0 G cc Ts y nL fr lo mc ms tb) {v : Int} (d : decode cc pc = .ok (.iconst v, 1)) (kk : KK X G lv w cs sl (pc + 1) (.int (iI v) :: st)) : KK X G lv w cs sl pc st := by
  obtain ⟨p, l, e, R, s, m, args, below, meth, c, A, Q, nn⟩ := X
  obtain ⟨hx, hb, hml, rfl, hown, hts, hE, hA, hlocks, hname, hR, htb, hlt, rfl⟩ := fx
  intro H locs ls hP hD hS hl
  exact lv_iconst hx hb d rfl (kk H locs ls hP hD hS hl)
theorem kz_bipush (fx : FX X l0 G cc Ts y nL fr lo mc ms tb) {v : Int} (d : decode cc pc = .ok (.bipush v, 2)) (hv : (Int8.ofInt v).toInt32 = iI v) (kk : KK X G lv w cs sl (pc + 2) (.int (iI v) :: st)) : KK X G lv w cs sl pc st := by
  obtain ⟨p, l, e, R, s, m, args, below, meth, c, A, Q, nn⟩ := X
  obtain ⟨hx, hb, hml, rfl, hown, hts, hE, hA, hlocks, hname, hR, htb, hlt, rfl⟩ := fx
  intro H locs ls hP hD hS hl
  exact lv_bipush hx hb d hv (kk H locs ls hP hD hS hl)
theorem kz_sipush (fx : FX X l0 G cc Ts y nL fr lo mc ms tb) {v : Int} (d : decode cc pc = .ok (.sipush v, 3)) (hv : (Int16.ofInt v).toInt32 = iI v) (kk : KK X G lv w cs sl (pc + 3) (.int (iI v) :: st)) : KK X G lv w cs sl pc st := by
  obtain ⟨p, l, e, R, s, m, args, below, meth, c, A, Q, nn⟩ := X
  obtain ⟨hx, hb, hml, rfl, hown, hts, hE, hA, hlocks, hname, hR, htb, hlt, rfl⟩ := fx
  intro H locs ls hP hD hS hl
  exact lv_sipush hx hb d hv (kk H locs ls hP hD hS hl)
theorem kz_ldcw (fx : FX X l0 G cc Ts y nL fr lo mc ms tb) {idx : Nat} {v : Int32} {z : Int} (hcon : Cond.constant y.cls idx v ∈ Ts) (hv : v = iI z) (d : decode cc pc = .ok (.ldc_w idx, 3)) (kk : KK X G lv w cs sl (pc + 3) (.int (iI z) :: st)) : KK X G lv w cs sl pc st := by
  obtain ⟨p, l, e, R, s, m, args, below, meth, c, A, Q, nn⟩ := X
  obtain ⟨hx, hb, hml, rfl, hown, hts, hE, hA, hlocks, hname, hR, htb, hlt, rfl⟩ := fx
  intro H locs ls hP hD hS hl
  subst hv
  exact lv_ldcw hx hb hown (hts _ hcon) d (kk H locs ls hP hD hS hl)
theorem kz_lconst (fx : FX X l0 G cc Ts y nL fr lo mc ms tb) {v : Fin 2} {z : Int64} (d : decode cc pc = .ok (.lconst v, 1)) (hv : Int64.ofNat (v : Nat) = z) (kk : KK X G lv w cs sl (pc + 1) (.long z :: st)) : KK X G lv w cs sl pc st := by
  obtain ⟨p, l, e, R, s, m, args, below, meth, c, A, Q, nn⟩ := X
  obtain ⟨hx, hb, hml, rfl, hown, hts, hE, hA, hlocks, hname, hR, htb, hlt, rfl⟩ := fx
  intro H locs ls hP hD hS hl
  exact lv_lconst hx hb d hv (kk H locs ls hP hD hS hl)
theorem kz_dup (fx : FX X l0 G cc Ts y nL fr lo mc ms tb) {v : Value} (d : decode cc pc = .ok (.dup, 1)) (hv : v.category = 1) (kk : KK X G lv w cs sl (pc + 1) (v :: v :: st)) : KK X G lv w cs sl pc (v :: st) := by
  obtain ⟨p, l, e, R, s, m, args, below, meth, c, A, Q, nn⟩ := X
  obtain ⟨hx, hb, hml, rfl, hown, hts, hE, hA, hlocks, hname, hR, htb, hlt, rfl⟩ := fx
  intro H locs ls hP hD hS hl
  exact lv_dup hx hb d hv (kk H locs ls hP hD hS hl)
theorem kz_dup2 (fx : FX X l0 G cc Ts y nL fr lo mc ms tb) {v u : Value} (d : decode cc pc = .ok (.dup2, 1)) (hv : v.category = 1) (hu : u.category = 1) (kk : KK X G lv w cs sl (pc + 1) (v :: u :: v :: u :: st)) : KK X G lv w cs sl pc (v :: u :: st) := by
  obtain ⟨p, l, e, R, s, m, args, below, meth, c, A, Q, nn⟩ := X
  obtain ⟨hx, hb, hml, rfl, hown, hts, hE, hA, hlocks, hname, hR, htb, hlt, rfl⟩ := fx
  intro H locs ls hP hD hS hl
  exact lv_dup2_11 hx hb d hv hu (kk H locs ls hP hD hS hl)
theorem kz_iadd (fx : FX X l0 G cc Ts y nL fr lo mc ms tb) {a b : Int} (d : decode cc pc = .ok (.iadd, 1)) (kk : KK X G lv w cs sl (pc + 1) (.int (iI (a + b)) :: st)) : KK X G lv w cs sl pc (.int (iI b) :: .int (iI a) :: st) := by
  obtain ⟨p, l, e, R, s, m, args, below, meth, c, A, Q, nn⟩ := X
  obtain ⟨hx, hb, hml, rfl, hown, hts, hE, hA, hlocks, hname, hR, htb, hlt, rfl⟩ := fx
  intro H locs ls hP hD hS hl
  refine lv_iadd hx hb d ?_
  rw [iI_add]
  exact kk H locs ls hP hD hS hl
theorem kz_isub (fx : FX X l0 G cc Ts y nL fr lo mc ms tb) {a b : Int} (d : decode cc pc = .ok (.isub, 1)) (kk : KK X G lv w cs sl (pc + 1) (.int (iI (a - b)) :: st)) : KK X G lv w cs sl pc (.int (iI b) :: .int (iI a) :: st) := by
  obtain ⟨p, l, e, R, s, m, args, below, meth, c, A, Q, nn⟩ := X
  obtain ⟨hx, hb, hml, rfl, hown, hts, hE, hA, hlocks, hname, hR, htb, hlt, rfl⟩ := fx
  intro H locs ls hP hD hS hl
  refine lv_isub hx hb d ?_
  rw [iI_sub]
  exact kk H locs ls hP hD hS hl
theorem kz_imul (fx : FX X l0 G cc Ts y nL fr lo mc ms tb) {a b : Int} (d : decode cc pc = .ok (.imul, 1)) (kk : KK X G lv w cs sl (pc + 1) (.int (iI (a * b)) :: st)) : KK X G lv w cs sl pc (.int (iI b) :: .int (iI a) :: st) := by
  obtain ⟨p, l, e, R, s, m, args, below, meth, c, A, Q, nn⟩ := X
  obtain ⟨hx, hb, hml, rfl, hown, hts, hE, hA, hlocks, hname, hR, htb, hlt, rfl⟩ := fx
  intro H locs ls hP hD hS hl
  refine lv_imul hx hb d ?_
  rw [iI_mul]
  exact kk H locs ls hP hD hS hl
theorem kz_idiv (fx : FX X l0 G cc Ts y nL fr lo mc ms tb) {a b : Int} (d : decode cc pc = .ok (.idiv, 1)) (ha : 0 ≤ a) (ha2 : rg a) (hb0 : 0 < b) (hb2 : rg b) (kk : KK X G lv w cs sl (pc + 1) (.int (iI (a / b)) :: st)) : KK X G lv w cs sl pc (.int (iI b) :: .int (iI a) :: st) := by
  obtain ⟨p, l, e, R, s, m, args, below, meth, c, A, Q, nn⟩ := X
  obtain ⟨hx, hb, hml, rfl, hown, hts, hE, hA, hlocks, hname, hR, htb, hlt, rfl⟩ := fx
  intro H locs ls hP hD hS hl
  refine lv_idiv hx hb d (iI_ne0 hb2 (by omega)) ?_
  rw [iI_div ha ha2 hb0 hb2]
  exact kk H locs ls hP hD hS hl
theorem kz_iand (fx : FX X l0 G cc Ts y nL fr lo mc ms tb) {x z v : Int32} (d : decode cc pc = .ok (.iand, 1)) (hv : x &&& z = v) (kk : KK X G lv w cs sl (pc + 1) (.int v :: st)) : KK X G lv w cs sl pc (.int z :: .int x :: st) := by
  obtain ⟨p, l, e, R, s, m, args, below, meth, c, A, Q, nn⟩ := X
  obtain ⟨hx, hb, hml, rfl, hown, hts, hE, hA, hlocks, hname, hR, htb, hlt, rfl⟩ := fx
  intro H locs ls hP hD hS hl
  refine lv_iand hx hb d ?_
  rw [hv]
  exact kk H locs ls hP hD hS hl
theorem kz_ior (fx : FX X l0 G cc Ts y nL fr lo mc ms tb) {x z v : Int32} (d : decode cc pc = .ok (.ior, 1)) (hv : x ||| z = v) (kk : KK X G lv w cs sl (pc + 1) (.int v :: st)) : KK X G lv w cs sl pc (.int z :: .int x :: st) := by
  obtain ⟨p, l, e, R, s, m, args, below, meth, c, A, Q, nn⟩ := X
  obtain ⟨hx, hb, hml, rfl, hown, hts, hE, hA, hlocks, hname, hR, htb, hlt, rfl⟩ := fx
  intro H locs ls hP hD hS hl
  refine lv_ior hx hb d ?_
  rw [hv]
  exact kk H locs ls hP hD hS hl
theorem kz_ixor (fx : FX X l0 G cc Ts y nL fr lo mc ms tb) {x z v : Int32} (d : decode cc pc = .ok (.ixor, 1)) (hv : x ^^^ z = v) (kk : KK X G lv w cs sl (pc + 1) (.int v :: st)) : KK X G lv w cs sl pc (.int z :: .int x :: st) := by
  obtain ⟨p, l, e, R, s, m, args, below, meth, c, A, Q, nn⟩ := X
  obtain ⟨hx, hb, hml, rfl, hown, hts, hE, hA, hlocks, hname, hR, htb, hlt, rfl⟩ := fx
  intro H locs ls hP hD hS hl
  refine lv_ixor hx hb d ?_
  rw [hv]
  exact kk H locs ls hP hD hS hl
theorem kz_ishl (fx : FX X l0 G cc Ts y nL fr lo mc ms tb) {x z v : Int32} (d : decode cc pc = .ok (.ishl, 1)) (hv : x <<< (z &&& 31) = v) (kk : KK X G lv w cs sl (pc + 1) (.int v :: st)) : KK X G lv w cs sl pc (.int z :: .int x :: st) := by
  obtain ⟨p, l, e, R, s, m, args, below, meth, c, A, Q, nn⟩ := X
  obtain ⟨hx, hb, hml, rfl, hown, hts, hE, hA, hlocks, hname, hR, htb, hlt, rfl⟩ := fx
  intro H locs ls hP hD hS hl
  refine lv_ishl hx hb d ?_
  rw [hv]
  exact kk H locs ls hP hD hS hl
theorem kz_ishr (fx : FX X l0 G cc Ts y nL fr lo mc ms tb) {x z v : Int32} (d : decode cc pc = .ok (.ishr, 1)) (hv : x >>> (z &&& 31) = v) (kk : KK X G lv w cs sl (pc + 1) (.int v :: st)) : KK X G lv w cs sl pc (.int z :: .int x :: st) := by
  obtain ⟨p, l, e, R, s, m, args, below, meth, c, A, Q, nn⟩ := X
  obtain ⟨hx, hb, hml, rfl, hown, hts, hE, hA, hlocks, hname, hR, htb, hlt, rfl⟩ := fx
  intro H locs ls hP hD hS hl
  refine lv_ishr hx hb d ?_
  rw [hv]
  exact kk H locs ls hP hD hS hl
theorem kz_iushr (fx : FX X l0 G cc Ts y nL fr lo mc ms tb) {x z v : Int32} (d : decode cc pc = .ok (.iushr, 1)) (hv : (x.toUInt32 >>> (z.toUInt32 &&& Int32.toUInt32 31)).toInt32 = v) (kk : KK X G lv w cs sl (pc + 1) (.int v :: st)) : KK X G lv w cs sl pc (.int z :: .int x :: st) := by
  obtain ⟨p, l, e, R, s, m, args, below, meth, c, A, Q, nn⟩ := X
  obtain ⟨hx, hb, hml, rfl, hown, hts, hE, hA, hlocks, hname, hR, htb, hlt, rfl⟩ := fx
  intro H locs ls hP hD hS hl
  exact lv_iushr hx hb d hv (kk H locs ls hP hD hS hl)
theorem kz_i2l (fx : FX X l0 G cc Ts y nL fr lo mc ms tb) {z : Int} (d : decode cc pc = .ok (.i2l, 1)) (hz : rg z) (kk : KK X G lv w cs sl (pc + 1) (.long (lI z) :: st)) : KK X G lv w cs sl pc (.int (iI z) :: st) := by
  obtain ⟨p, l, e, R, s, m, args, below, meth, c, A, Q, nn⟩ := X
  obtain ⟨hx, hb, hml, rfl, hown, hts, hE, hA, hlocks, hname, hR, htb, hlt, rfl⟩ := fx
  intro H locs ls hP hD hS hl
  exact lv_i2l hx hb d (iI_l hz) (kk H locs ls hP hD hS hl)
theorem kz_i2c (fx : FX X l0 G cc Ts y nL fr lo mc ms tb) {x v : Int32} (d : decode cc pc = .ok (.i2c, 1)) (hv : (x.toUInt32 % 65536).toInt32 = v) (kk : KK X G lv w cs sl (pc + 1) (.int v :: st)) : KK X G lv w cs sl pc (.int x :: st) := by
  obtain ⟨p, l, e, R, s, m, args, below, meth, c, A, Q, nn⟩ := X
  obtain ⟨hx, hb, hml, rfl, hown, hts, hE, hA, hlocks, hname, hR, htb, hlt, rfl⟩ := fx
  intro H locs ls hP hD hS hl
  exact lv_i2c hx hb d hv (kk H locs ls hP hD hS hl)
theorem kz_i2f (fx : FX X l0 G cc Ts y nL fr lo mc ms tb) {x : Int32} (d : decode cc pc = .ok (.i2f, 1)) (kk : KK X G lv w cs sl (pc + 1) (.float (FP.i2f x) :: st)) : KK X G lv w cs sl pc (.int x :: st) := by
  obtain ⟨p, l, e, R, s, m, args, below, meth, c, A, Q, nn⟩ := X
  obtain ⟨hx, hb, hml, rfl, hown, hts, hE, hA, hlocks, hname, hR, htb, hlt, rfl⟩ := fx
  intro H locs ls hP hD hS hl
  exact lv_i2f hx hb d (kk H locs ls hP hD hS hl)
theorem kz_i2d (fx : FX X l0 G cc Ts y nL fr lo mc ms tb) {x : Int32} (d : decode cc pc = .ok (.i2d, 1)) (kk : KK X G lv w cs sl (pc + 1) (.double (FP.i2d x) :: st)) : KK X G lv w cs sl pc (.int x :: st) := by
  obtain ⟨p, l, e, R, s, m, args, below, meth, c, A, Q, nn⟩ := X
  obtain ⟨hx, hb, hml, rfl, hown, hts, hE, hA, hlocks, hname, hR, htb, hlt, rfl⟩ := fx
  intro H locs ls hP hD hS hl
  exact lv_i2d hx hb d (kk H locs ls hP hD hS hl)
theorem kz_fdiv (fx : FX X l0 G cc Ts y nL fr lo mc ms tb) {x z : UInt32} (d : decode cc pc = .ok (.fdiv, 1)) (hne : vf_n32 (FP.fdiv x z)) (kk : KK X G lv w cs sl (pc + 1) (.float (FP.fdiv x z) :: st)) : KK X G lv w cs sl pc (.float z :: .float x :: st) := by
  obtain ⟨p, l, e, R, s, m, args, below, meth, c, A, Q, nn⟩ := X
  obtain ⟨hx, hb, hml, rfl, hown, hts, hE, hA, hlocks, hname, hR, htb, hlt, rfl⟩ := fx
  intro H locs ls hP hD hS hl
  exact lv_fdiv hx hb d hne (kk H locs ls hP hD hS hl)
theorem kz_ddiv (fx : FX X l0 G cc Ts y nL fr lo mc ms tb) {x z : UInt64} (d : decode cc pc = .ok (.ddiv, 1)) (hne : vf_n64 (FP.ddiv x z)) (kk : KK X G lv w cs sl (pc + 1) (.double (FP.ddiv x z) :: st)) : KK X G lv w cs sl pc (.double z :: .double x :: st) := by
  obtain ⟨p, l, e, R, s, m, args, below, meth, c, A, Q, nn⟩ := X
  obtain ⟨hx, hb, hml, rfl, hown, hts, hE, hA, hlocks, hname, hR, htb, hlt, rfl⟩ := fx
  intro H locs ls hP hD hS hl
  exact lv_ddiv hx hb d hne (kk H locs ls hP hD hS hl)
theorem kz_f2d (fx : FX X l0 G cc Ts y nL fr lo mc ms tb) {x : UInt32} (d : decode cc pc = .ok (.f2d, 1)) (hne : vf_n64 (FP.f2d x)) (kk : KK X G lv w cs sl (pc + 1) (.double (FP.f2d x) :: st)) : KK X G lv w cs sl pc (.float x :: st) := by
  obtain ⟨p, l, e, R, s, m, args, below, meth, c, A, Q, nn⟩ := X
  obtain ⟨hx, hb, hml, rfl, hown, hts, hE, hA, hlocks, hname, hR, htb, hlt, rfl⟩ := fx
  intro H locs ls hP hD hS hl
  exact lv_f2d hx hb d hne (kk H locs ls hP hD hS hl)
theorem kz_fcmp (fx : FX X l0 G cc Ts y nL fr lo mc ms tb) {x z : UInt32} {op : CmpOp} (d : decode cc pc = .ok (.fcmp op, 1)) (kk : KK X G lv w cs sl (pc + 1) (.int (Op.cmpValue (FP.fcmp x z) op) :: st)) : KK X G lv w cs sl pc (.float z :: .float x :: st) := by
  obtain ⟨p, l, e, R, s, m, args, below, meth, c, A, Q, nn⟩ := X
  obtain ⟨hx, hb, hml, rfl, hown, hts, hE, hA, hlocks, hname, hR, htb, hlt, rfl⟩ := fx
  intro H locs ls hP hD hS hl
  exact lv_fcmp hx hb d (kk H locs ls hP hD hS hl)
theorem kz_dcmp (fx : FX X l0 G cc Ts y nL fr lo mc ms tb) {x z : UInt64} {op : CmpOp} (d : decode cc pc = .ok (.dcmp op, 1)) (kk : KK X G lv w cs sl (pc + 1) (.int (Op.cmpValue (FP.dcmp x z) op) :: st)) : KK X G lv w cs sl pc (.double z :: .double x :: st) := by
  obtain ⟨p, l, e, R, s, m, args, below, meth, c, A, Q, nn⟩ := X
  obtain ⟨hx, hb, hml, rfl, hown, hts, hE, hA, hlocks, hname, hR, htb, hlt, rfl⟩ := fx
  intro H locs ls hP hD hS hl
  exact lv_dcmp hx hb d (kk H locs ls hP hD hS hl)
theorem kz_lcmp (fx : FX X l0 G cc Ts y nL fr lo mc ms tb) {x z : Int64} (d : decode cc pc = .ok (.lcmp, 1)) (kk : KK X G lv w cs sl (pc + 1) (.int (lg_cmp x z) :: st)) : KK X G lv w cs sl pc (.long z :: .long x :: st) := by
  obtain ⟨p, l, e, R, s, m, args, below, meth, c, A, Q, nn⟩ := X
  obtain ⟨hx, hb, hml, rfl, hown, hts, hE, hA, hlocks, hname, hR, htb, hlt, rfl⟩ := fx
  intro H locs ls hP hD hS hl
  exact W.lcmp hx hb d (kk H locs ls hP hD hS hl)
theorem kz_goto (fx : FX X l0 G cc Ts y nL fr lo mc ms tb) {off : Int} {tgt : Nat} (d : decode cc pc = .ok (.goto off, 3)) (ht : (pc : Int) + off = (tgt : Int)) (kk : KK X G lv w cs sl tgt st) : KK X G lv w cs sl pc st := by
  obtain ⟨p, l, e, R, s, m, args, below, meth, c, A, Q, nn⟩ := X
  obtain ⟨hx, hb, hml, rfl, hown, hts, hE, hA, hlocks, hname, hR, htb, hlt, rfl⟩ := fx
  intro H locs ls hP hD hS hl
  exact lv_goto hx hb d ht (kk H locs ls hP hD hS hl)
theorem kz_icmp_eq (fx : FX X l0 G cc Ts y nL fr lo mc ms tb) {a b off : Int} (tgt : Nat) (d : decode cc pc = .ok (.if_icmp .eq off, 3)) (ht : (pc : Int) + off = (tgt : Int)) (ha : rg a) (hb2 : rg b) (kt : a = b → KK X G lv w cs sl tgt st) (kf : a ≠ b → KK X G lv w cs sl (pc + 3) st) : KK X G lv w cs sl pc (.int (iI b) :: .int (iI a) :: st) := by
  obtain ⟨p, l, e, R, s, m, args, below, meth, c, A, Q, nn⟩ := X
  obtain ⟨hx, hb, hml, rfl, hown, hts, hE, hA, hlocks, hname, hR, htb, hlt, rfl⟩ := fx
  intro H locs ls hP hD hS hl
  exact lv_icmp_eq hx hb d ht (fun h => kt ((iI_inj ha hb2).mp h) H locs ls hP hD hS hl) (fun h => kf (fun z => h ((iI_inj ha hb2).mpr z)) H locs ls hP hD hS hl)
theorem kz_if_eq (fx : FX X l0 G cc Ts y nL fr lo mc ms tb) {a off : Int} (tgt : Nat) (d : decode cc pc = .ok (.ifCond .eq off, 3)) (ht : (pc : Int) + off = (tgt : Int)) (ha : rg a) (kt : a = 0 → KK X G lv w cs sl tgt st) (kf : a ≠ 0 → KK X G lv w cs sl (pc + 3) st) : KK X G lv w cs sl pc (.int (iI a) :: st) := by
  obtain ⟨p, l, e, R, s, m, args, below, meth, c, A, Q, nn⟩ := X
  obtain ⟨hx, hb, hml, rfl, hown, hts, hE, hA, hlocks, hname, hR, htb, hlt, rfl⟩ := fx
  intro H locs ls hP hD hS hl
  have hb2 := rg0
  exact lv_if_eq hx hb d ht (fun h => kt (by rw [← iI_0] at h; exact (iI_inj ha hb2).mp h) H locs ls hP hD hS hl) (fun h => kf (by rw [← iI_0] at h; exact fun z => h ((iI_inj ha hb2).mpr z)) H locs ls hP hD hS hl)
theorem kz_icmp_ne (fx : FX X l0 G cc Ts y nL fr lo mc ms tb) {a b off : Int} (tgt : Nat) (d : decode cc pc = .ok (.if_icmp .ne off, 3)) (ht : (pc : Int) + off = (tgt : Int)) (ha : rg a) (hb2 : rg b) (kt : a ≠ b → KK X G lv w cs sl tgt st) (kf : a = b → KK X G lv w cs sl (pc + 3) st) : KK X G lv w cs sl pc (.int (iI b) :: .int (iI a) :: st) := by
  obtain ⟨p, l, e, R, s, m, args, below, meth, c, A, Q, nn⟩ := X
  obtain ⟨hx, hb, hml, rfl, hown, hts, hE, hA, hlocks, hname, hR, htb, hlt, rfl⟩ := fx
  intro H locs ls hP hD hS hl
  exact lv_icmp_ne hx hb d ht (fun h => kt (fun z => h ((iI_inj ha hb2).mpr z)) H locs ls hP hD hS hl) (fun h => kf ((iI_inj ha hb2).mp h) H locs ls hP hD hS hl)
theorem kz_if_ne (fx : FX X l0 G cc Ts y nL fr lo mc ms tb) {a off : Int} (tgt : Nat) (d : decode cc pc = .ok (.ifCond .ne off, 3)) (ht : (pc : Int) + off = (tgt : Int)) (ha : rg a) (kt : a ≠ 0 → KK X G lv w cs sl tgt st) (kf : a = 0 → KK X G lv w cs sl (pc + 3) st) : KK X G lv w cs sl pc (.int (iI a) :: st) := by
  obtain ⟨p, l, e, R, s, m, args, below, meth, c, A, Q, nn⟩ := X
  obtain ⟨hx, hb, hml, rfl, hown, hts, hE, hA, hlocks, hname, hR, htb, hlt, rfl⟩ := fx
  intro H locs ls hP hD hS hl
  have hb2 := rg0
  exact lv_if_ne hx hb d ht (fun h => kt (by rw [← iI_0] at h; exact fun z => h ((iI_inj ha hb2).mpr z)) H locs ls hP hD hS hl) (fun h => kf (by rw [← iI_0] at h; exact (iI_inj ha hb2).mp h) H locs ls hP hD hS hl)
theorem kz_icmp_lt (fx : FX X l0 G cc Ts y nL fr lo mc ms tb) {a b off : Int} (tgt : Nat) (d : decode cc pc = .ok (.if_icmp .lt off, 3)) (ht : (pc : Int) + off = (tgt : Int)) (ha : rg a) (hb2 : rg b) (kt : a < b → KK X G lv w cs sl tgt st) (kf : b ≤ a → KK X G lv w cs sl (pc + 3) st) : KK X G lv w cs sl pc (.int (iI b) :: .int (iI a) :: st) := by
  obtain ⟨p, l, e, R, s, m, args, below, meth, c, A, Q, nn⟩ := X
  obtain ⟨hx, hb, hml, rfl, hown, hts, hE, hA, hlocks, hname, hR, htb, hlt, rfl⟩ := fx
  intro H locs ls hP hD hS hl
  exact lv_icmp_lt hx hb d ht (fun h => kt ((iI_lt ha hb2).mp h) H locs ls hP hD hS hl) (fun h => kf (by have := mt (iI_lt ha hb2).mpr h; omega) H locs ls hP hD hS hl)
theorem kz_if_lt (fx : FX X l0 G cc Ts y nL fr lo mc ms tb) {a off : Int} (tgt : Nat) (d : decode cc pc = .ok (.ifCond .lt off, 3)) (ht : (pc : Int) + off = (tgt : Int)) (ha : rg a) (kt : a < 0 → KK X G lv w cs sl tgt st) (kf : 0 ≤ a → KK X G lv w cs sl (pc + 3) st) : KK X G lv w cs sl pc (.int (iI a) :: st) := by
  obtain ⟨p, l, e, R, s, m, args, below, meth, c, A, Q, nn⟩ := X
  obtain ⟨hx, hb, hml, rfl, hown, hts, hE, hA, hlocks, hname, hR, htb, hlt, rfl⟩ := fx
  intro H locs ls hP hD hS hl
  have hb2 := rg0
  exact lv_if_lt hx hb d ht (fun h => kt (by rw [← iI_0] at h; exact (iI_lt ha hb2).mp h) H locs ls hP hD hS hl) (fun h => kf (by rw [← iI_0] at h; exact by have := mt (iI_lt ha hb2).mpr h; omega) H locs ls hP hD hS hl)
theorem kz_icmp_ge (fx : FX X l0 G cc Ts y nL fr lo mc ms tb) {a b off : Int} (tgt : Nat) (d : decode cc pc = .ok (.if_icmp .ge off, 3)) (ht : (pc : Int) + off = (tgt : Int)) (ha : rg a) (hb2 : rg b) (kt : b ≤ a → KK X G lv w cs sl tgt st) (kf : a < b → KK X G lv w cs sl (pc + 3) st) : KK X G lv w cs sl pc (.int (iI b) :: .int (iI a) :: st) := by
  obtain ⟨p, l, e, R, s, m, args, below, meth, c, A, Q, nn⟩ := X
  obtain ⟨hx, hb, hml, rfl, hown, hts, hE, hA, hlocks, hname, hR, htb, hlt, rfl⟩ := fx
  intro H locs ls hP hD hS hl
  exact lv_icmp_ge hx hb d ht (fun h => kt ((iI_le hb2 ha).mp h) H locs ls hP hD hS hl) (fun h => kf (by have := mt (iI_le hb2 ha).mpr h; omega) H locs ls hP hD hS hl)
theorem kz_if_ge (fx : FX X l0 G cc Ts y nL fr lo mc ms tb) {a off : Int} (tgt : Nat) (d : decode cc pc = .ok (.ifCond .ge off, 3)) (ht : (pc : Int) + off = (tgt : Int)) (ha : rg a) (kt : 0 ≤ a → KK X G lv w cs sl tgt st) (kf : a < 0 → KK X G lv w cs sl (pc + 3) st) : KK X G lv w cs sl pc (.int (iI a) :: st) := by
  obtain ⟨p, l, e, R, s, m, args, below, meth, c, A, Q, nn⟩ := X
  obtain ⟨hx, hb, hml, rfl, hown, hts, hE, hA, hlocks, hname, hR, htb, hlt, rfl⟩ := fx
  intro H locs ls hP hD hS hl
  have hb2 := rg0
  exact lv_if_ge hx hb d ht (fun h => kt (by rw [← iI_0] at h; exact (iI_le hb2 ha).mp h) H locs ls hP hD hS hl) (fun h => kf (by rw [← iI_0] at h; exact by have := mt (iI_le hb2 ha).mpr h; omega) H locs ls hP hD hS hl)
theorem kz_icmp_gt (fx : FX X l0 G cc Ts y nL fr lo mc ms tb) {a b off : Int} (tgt : Nat) (d : decode cc pc = .ok (.if_icmp .gt off, 3)) (ht : (pc : Int) + off = (tgt : Int)) (ha : rg a) (hb2 : rg b) (kt : b < a → KK X G lv w cs sl tgt st) (kf : a ≤ b → KK X G lv w cs sl (pc + 3) st) : KK X G lv w cs sl pc (.int (iI b) :: .int (iI a) :: st) := by
  obtain ⟨p, l, e, R, s, m, args, below, meth, c, A, Q, nn⟩ := X
  obtain ⟨hx, hb, hml, rfl, hown, hts, hE, hA, hlocks, hname, hR, htb, hlt, rfl⟩ := fx
  intro H locs ls hP hD hS hl
  exact lv_icmp_gt hx hb d ht (fun h => kt ((iI_lt hb2 ha).mp h) H locs ls hP hD hS hl) (fun h => kf (by have := mt (iI_lt hb2 ha).mpr h; omega) H locs ls hP hD hS hl)
theorem kz_if_gt (fx : FX X l0 G cc Ts y nL fr lo mc ms tb) {a off : Int} (tgt : Nat) (d : decode cc pc = .ok (.ifCond .gt off, 3)) (ht : (pc : Int) + off = (tgt : Int)) (ha : rg a) (kt : 0 < a → KK X G lv w cs sl tgt st) (kf : a ≤ 0 → KK X G lv w cs sl (pc + 3) st) : KK X G lv w cs sl pc (.int (iI a) :: st) := by
  obtain ⟨p, l, e, R, s, m, args, below, meth, c, A, Q, nn⟩ := X
  obtain ⟨hx, hb, hml, rfl, hown, hts, hE, hA, hlocks, hname, hR, htb, hlt, rfl⟩ := fx
  intro H locs ls hP hD hS hl
  have hb2 := rg0
  exact lv_if_gt hx hb d ht (fun h => kt (by rw [← iI_0] at h; exact (iI_lt hb2 ha).mp h) H locs ls hP hD hS hl) (fun h => kf (by rw [← iI_0] at h; exact by have := mt (iI_lt hb2 ha).mpr h; omega) H locs ls hP hD hS hl)
theorem kz_icmp_le (fx : FX X l0 G cc Ts y nL fr lo mc ms tb) {a b off : Int} (tgt : Nat) (d : decode cc pc = .ok (.if_icmp .le off, 3)) (ht : (pc : Int) + off = (tgt : Int)) (ha : rg a) (hb2 : rg b) (kt : a ≤ b → KK X G lv w cs sl tgt st) (kf : b < a → KK X G lv w cs sl (pc + 3) st) : KK X G lv w cs sl pc (.int (iI b) :: .int (iI a) :: st) := by
  obtain ⟨p, l, e, R, s, m, args, below, meth, c, A, Q, nn⟩ := X
  obtain ⟨hx, hb, hml, rfl, hown, hts, hE, hA, hlocks, hname, hR, htb, hlt, rfl⟩ := fx
  intro H locs ls hP hD hS hl
  exact lv_icmp_le hx hb d ht (fun h => kt ((iI_le ha hb2).mp h) H locs ls hP hD hS hl) (fun h => kf (by have := mt (iI_le ha hb2).mpr h; omega) H locs ls hP hD hS hl)
theorem kz_if_le (fx : FX X l0 G cc Ts y nL fr lo mc ms tb) {a off : Int} (tgt : Nat) (d : decode cc pc = .ok (.ifCond .le off, 3)) (ht : (pc : Int) + off = (tgt : Int)) (ha : rg a) (kt : a ≤ 0 → KK X G lv w cs sl tgt st) (kf : 0 < a → KK X G lv w cs sl (pc + 3) st) : KK X G lv w cs sl pc (.int (iI a) :: st) := by
  obtain ⟨p, l, e, R, s, m, args, below, meth, c, A, Q, nn⟩ := X
  obtain ⟨hx, hb, hml, rfl, hown, hts, hE, hA, hlocks, hname, hR, htb, hlt, rfl⟩ := fx
  intro H locs ls hP hD hS hl
  have hb2 := rg0
  exact lv_if_le hx hb d ht (fun h => kt (by rw [← iI_0] at h; exact (iI_le ha hb2).mp h) H locs ls hP hD hS hl) (fun h => kf (by rw [← iI_0] at h; exact by have := mt (iI_le ha hb2).mpr h; omega) H locs ls hP hD hS hl)
theorem kz_ifb_eq (fx : FX X l0 G cc Ts y nL fr lo mc ms tb) {b : Bool} {off : Int} (tgt : Nat) (d : decode cc pc = .ok (.ifCond .eq off, 3)) (ht : (pc : Int) + off = (tgt : Int)) (kt : b = false → KK X G lv w cs sl tgt st) (kf : b = true → KK X G lv w cs sl (pc + 3) st) : KK X G lv w cs sl pc (.int (iI (bI b)) :: st) := by
  obtain ⟨p, l, e, R, s, m, args, below, meth, c, A, Q, nn⟩ := X
  obtain ⟨hx, hb, hml, rfl, hown, hts, hE, hA, hlocks, hname, hR, htb, hlt, rfl⟩ := fx
  intro H locs ls hP hD hS hl
  exact lv_if_eq hx hb d ht (fun h => kt (by cases b <;> first | rfl | exact absurd h (by decide +kernel)) H locs ls hP hD hS hl) (fun h => kf (by cases b <;> first | rfl | exact absurd h (by decide +kernel)) H locs ls hP hD hS hl)
theorem kz_ifb_ne (fx : FX X l0 G cc Ts y nL fr lo mc ms tb) {b : Bool} {off : Int} (tgt : Nat) (d : decode cc pc = .ok (.ifCond .ne off, 3)) (ht : (pc : Int) + off = (tgt : Int)) (kt : b = true → KK X G lv w cs sl tgt st) (kf : b = false → KK X G lv w cs sl (pc + 3) st) : KK X G lv w cs sl pc (.int (iI (bI b)) :: st) := by
  obtain ⟨p, l, e, R, s, m, args, below, meth, c, A, Q, nn⟩ := X
  obtain ⟨hx, hb, hml, rfl, hown, hts, hE, hA, hlocks, hname, hR, htb, hlt, rfl⟩ := fx
  intro H locs ls hP hD hS hl
  exact lv_if_ne hx hb d ht (fun h => kt (by cases b <;> first | rfl | exact absurd h (by decide +kernel)) H locs ls hP hD hS hl) (fun h => kf (by cases b <;> first | rfl | exact absurd h (by decide +kernel)) H locs ls hP hD hS hl)
theorem kz_ifr_eq (fx : FX X l0 G cc Ts y nL fr lo mc ms tb) {x : Int32} {off : Int} (tgt : Nat) (d : decode cc pc = .ok (.ifCond .eq off, 3)) (ht : (pc : Int) + off = (tgt : Int)) (kt : x = 0 → KK X G lv w cs sl tgt st) (kf : ¬ x = 0 → KK X G lv w cs sl (pc + 3) st) : KK X G lv w cs sl pc (.int x :: st) := by
  obtain ⟨p, l, e, R, s, m, args, below, meth, c, A, Q, nn⟩ := X
  obtain ⟨hx, hb, hml, rfl, hown, hts, hE, hA, hlocks, hname, hR, htb, hlt, rfl⟩ := fx
  intro H locs ls hP hD hS hl
  exact lv_if_eq hx hb d ht (fun h => kt h H locs ls hP hD hS hl) (fun h => kf (h) H locs ls hP hD hS hl)
theorem kz_ifr_ne (fx : FX X l0 G cc Ts y nL fr lo mc ms tb) {x : Int32} {off : Int} (tgt : Nat) (d : decode cc pc = .ok (.ifCond .ne off, 3)) (ht : (pc : Int) + off = (tgt : Int)) (kt : ¬ x = 0 → KK X G lv w cs sl tgt st) (kf : x = 0 → KK X G lv w cs sl (pc + 3) st) : KK X G lv w cs sl pc (.int x :: st) := by
  obtain ⟨p, l, e, R, s, m, args, below, meth, c, A, Q, nn⟩ := X
  obtain ⟨hx, hb, hml, rfl, hown, hts, hE, hA, hlocks, hname, hR, htb, hlt, rfl⟩ := fx
  intro H locs ls hP hD hS hl
  exact lv_if_ne hx hb d ht (fun h => kt h H locs ls hP hD hS hl) (fun h => kf (h) H locs ls hP hD hS hl)
theorem kz_tabIn (fx : FX X l0 G cc Ts y nL fr lo mc ms tb) {dflt lo1 hi1 : Int} {offs : Array Int} {len : Nat} {z off : Int} (tgt : Nat) (d : decode cc pc = .ok (.tableswitch dflt lo1 hi1 offs, len)) (hz : rg z) (h1 : lo1 ≤ z) (h2 : z ≤ hi1) (ho : offs[(z - lo1).toNat]? = some off) (ht : (pc : Int) + off = (tgt : Int)) (kk : KK X G lv w cs sl tgt st) : KK X G lv w cs sl pc (.int (iI z) :: st) := by
  obtain ⟨p, l, e, R, s, m, args, below, meth, c, A, Q, nn⟩ := X
  obtain ⟨hx, hb, hml, rfl, hown, hts, hE, hA, hlocks, hname, hR, htb, hlt, rfl⟩ := fx
  intro H locs ls hP hD hS hl
  exact lv_tableIn hx hb d (by rw [iI_t hz]; omega) (by rw [iI_t hz]; omega) (by rw [iI_t hz]; exact ho) ht (kk H locs ls hP hD hS hl)
theorem kz_tabOut (fx : FX X l0 G cc Ts y nL fr lo mc ms tb) {dflt lo1 hi1 : Int} {offs : Array Int} {len : Nat} {z : Int} (tgt : Nat) (d : decode cc pc = .ok (.tableswitch dflt lo1 hi1 offs, len)) (hz : rg z) (h : z < lo1 ∨ hi1 < z) (ht : (pc : Int) + dflt = (tgt : Int)) (kk : KK X G lv w cs sl tgt st) : KK X G lv w cs sl pc (.int (iI z) :: st) := by
  obtain ⟨p, l, e, R, s, m, args, below, meth, c, A, Q, nn⟩ := X
  obtain ⟨hx, hb, hml, rfl, hown, hts, hE, hA, hlocks, hname, hR, htb, hlt, rfl⟩ := fx
  intro H locs ls hP hD hS hl
  exact lv_tableOut hx hb d (by rw [iI_t hz]; exact h) ht (kk H locs ls hP hD hS hl)
theorem kz_pop (fx : FX X l0 G cc Ts y nL fr lo mc ms tb) {v : Value} (d : decode cc pc = .ok (.pop, 1)) (hv : v.category = 1) (kk : KK X G lv w cs sl (pc + 1) st) : KK X G lv w cs sl pc (v :: st) := by
  obtain ⟨p, l, e, R, s, m, args, below, meth, c, A, Q, nn⟩ := X
  obtain ⟨hx, hb, hml, rfl, hown, hts, hE, hA, hlocks, hname, hR, htb, hlt, rfl⟩ := fx
  intro H locs ls hP hD hS hl
  exact lv_pop hx hb d hv (kk H locs ls hP hD hS hl)
theorem kz_objInit (fx : FX X l0 G cc Ts y nL fr lo mc ms tb) {idx a : Nat} (hlink : Cond.methodLink y.cls idx objectInit ∈ Ts) (hinst : Cond.instanceMethod objectInit ∈ Ts) (hcode : Cond.code objectInit ⟨#[0xb1]⟩ 1 none ∈ Ts) (d : decode cc pc = .ok (.invokespecial idx, 3)) (hf : 1 ≤ fr) (hlo : (st.map fun v => v.category).sum + 12 ≤ lo) (kk : KK X G lv w cs sl (pc + 3) st) : KK X G lv w cs sl pc (.ref a :: st) := by
  obtain ⟨p, l, e, R, s, m, args, below, meth, c, A, Q, nn⟩ := X
  obtain ⟨hx, hb, hml, rfl, hown, hts, hE, hA, hlocks, hname, hR, htb, hlt, rfl⟩ := fx
  intro H locs ls hP hD hS hl
  subst hR
  refine W.objInit hx hb hown (hts _ hlink) (hts _ hinst) (hts _ hcode) rfl (by rw [hml]; exact hl.1) rfl d hf (by show 2 * 0 + _ + 12 ≤ lo; omega) ?_
  refine W.eq (g2 := F0 m (pc + 3) ls st) rfl ?_
  exact kk H locs ls hP hD hS hl
theorem kz_mmax_v {a b : Int} (ha : rg a) (hb : rg b) : (if iI a < iI b then iI b else iI a) = iI (max a b) := by
  have h := iI_lt ha hb
  split
  · rename_i q
    have q2 := h.mp q
    rw [show max a b = b by omega]
  · rename_i q
    have q2 := mt h.mpr q
    rw [show max a b = a by omega]
theorem kz_mmax (fx : FX X l0 G cc Ts y nL fr lo mc ms tb) {idx : Nat} {a b : Int} (hlink : Cond.methodLink y.cls idx Lib.Math.max.name ∈ Ts) (hstat : Cond.static Lib.Math.max.name ∈ Ts) (hini : Cond.initialized "java/lang/Math" ∈ Ts) (hcode : Cond.code Lib.Math.max.name Lib.Math.max.code 2 (some .int) ∈ Ts) (hf : 1 ≤ fr) (hlo : (st.map fun v => v.category).sum + 13 ≤ lo) (hc : cs ≤ mc) (hs : sl ≤ ms) (ha : rg a) (hb2 : rg b) (d : decode cc pc = .ok (.invokestatic idx, 3)) (kk : KK X G lv w cs sl (pc + 3) (.int (iI (max a b)) :: st)) : KK X G lv w cs sl pc (.int (iI b) :: .int (iI a) :: st) := by
  obtain ⟨p, l, e, R, s, m, args, below, meth, c, A, Q, nn⟩ := X
  obtain ⟨hx, hb, hml, rfl, hown, hts, hE, hA, hlocks, hname, hR, htb, hlt, rfl⟩ := fx
  intro H locs ls hP hD hS hl
  subst hR
  refine va_mmax hx hb (hml.trans hl.1.symm) hown (hts _ hlink) (hts _ hstat) (hts _ hini) (hts _ hcode) hf hlo hc hs d ?_
  rw [kz_mmax_v ha hb2]
  exact kk H locs ls hP hD hS hl
theorem kz_mmin_v {a b : Int} (ha : rg a) (hb : rg b) : (if iI b < iI a then iI b else iI a) = iI (min a b) := by
  have h := iI_lt hb ha
  split
  · rename_i q
    have q2 := h.mp q
    rw [show min a b = b by omega]
  · rename_i q
    have q2 := mt h.mpr q
    rw [show min a b = a by omega]
theorem kz_mmin (fx : FX X l0 G cc Ts y nL fr lo mc ms tb) {idx : Nat} {a b : Int} (hlink : Cond.methodLink y.cls idx Lib.Math.min.name ∈ Ts) (hstat : Cond.static Lib.Math.min.name ∈ Ts) (hini : Cond.initialized "java/lang/Math" ∈ Ts) (hcode : Cond.code Lib.Math.min.name Lib.Math.min.code 2 (some .int) ∈ Ts) (hf : 1 ≤ fr) (hlo : (st.map fun v => v.category).sum + 13 ≤ lo) (hc : cs ≤ mc) (hs : sl ≤ ms) (ha : rg a) (hb2 : rg b) (d : decode cc pc = .ok (.invokestatic idx, 3)) (kk : KK X G lv w cs sl (pc + 3) (.int (iI (min a b)) :: st)) : KK X G lv w cs sl pc (.int (iI b) :: .int (iI a) :: st) := by
  obtain ⟨p, l, e, R, s, m, args, below, meth, c, A, Q, nn⟩ := X
  obtain ⟨hx, hb, hml, rfl, hown, hts, hE, hA, hlocks, hname, hR, htb, hlt, rfl⟩ := fx
  intro H locs ls hP hD hS hl
  subst hR
  refine va_mmin hx hb (hml.trans hl.1.symm) hown (hts _ hlink) (hts _ hstat) (hts _ hini) (hts _ hcode) hf hlo hc hs d ?_
  rw [kz_mmin_v ha hb2]
  exact kk H locs ls hP hD hS hl
theorem rt_i {a b : Int} {w w1 : va_W} (h : a = b) (hw : w = w1) : rt (some (.int (iI b))) w1 (.inl (some (.int (iI a)))) w := ⟨by rw [h], hw⟩
theorem rt_b {a b : Bool} {w w1 : va_W} (h : a = b) (hw : w = w1) : rt (some (.int (iI (bI b)))) w1 (.inl (some (.int (iI (bI a))))) w := ⟨by rw [h], hw⟩
theorem kz_get (fx : FX X l0 G cc Ts y nL fr lo mc ms tb) {a ci : Nat} {fs : List Value} {C ref : String} {T : u_T} {N index : Nat} {v : Value} (q k : Nat) (he : w[q]? = some (a, .inr (ci, fs))) (hc : vwCl[ci]? = some (C, T, N)) (hin : ∀ u ∈ u_ws C T N, u ∈ Ts) (hk : k < N) (hlink : Cond.fieldLink y.cls index ref (T k).2.1 (T k).2.2.1 ∈ Ts) (hr : (T k).1 = ref) (hv : fs[k]? = some v) (d : decode cc pc = .ok (.getfield index, 3)) (kk : KK X G lv w cs sl (pc + 3) (v :: st)) : KK X G lv w cs sl pc (.ref a :: st) := by
  obtain ⟨p, l, e, R, s, m, args, below, meth, c, A, Q, nn⟩ := X
  obtain ⟨hx, hb, hml, rfl, hown, hts, hE, hA, hlocks, hname, hR, htb, hlt, rfl⟩ := fx
  intro H locs ls hP hD hS hl
  exact va_get hx hb hts hin hown hE.1 hP q he hc k hk (hts _ hlink) (fun _ h => by rw [← hr]; exact h) hv d (kk H locs ls hP hD hS hl)
theorem kz_put (fx : FX X l0 G cc Ts y nL fr lo mc ms tb) {a ci : Nat} {fs : List Value} {C ref : String} {T : u_T} {N index : Nat} {v : Value} (ty0 : Nat → FieldType) (q k : Nat) (he : w[q]? = some (a, .inr (ci, fs))) (hc : vwCl[ci]? = some (C, T, N)) (hin : ∀ u ∈ u_ws C T N, u ∈ Ts) (hty : ∀ k, k < N → parseFieldDescriptor (T k).2.2.1 = some (ty0 k)) (hnm : ∀ a, a < N → ∀ b, b < N → a ≠ b → (T a).2.1 ≠ (T b).2.1) (hk : k < N) (hlink : Cond.fieldLink y.cls index ref (T k).2.1 (T k).2.2.1 ∈ Ts) (hr : (T k).1 = ref) (hfin : (T k).2.2.2 = false) (hn : narrow (ty0 k) v = v) (hfit : fits (ty0 k) v = true) (hl1 : k < fs.length) (d : decode cc pc = .ok (.putfield index, 3)) (hw : w.set q (a, .inr (ci, fs.set k v)) = w') (kk : KK X G lv w' cs sl (pc + 3) st) : KK X G lv w cs sl pc (v :: .ref a :: st) := by
  obtain ⟨p, l, e, R, s, m, args, below, meth, c, A, Q, nn⟩ := X
  obtain ⟨hx, hb, hml, rfl, hown, hts, hE, hA, hlocks, hname, hR, htb, hlt, rfl⟩ := fx
  intro H locs ls hP hD hS hl
  refine va_put hx hb hts hin ty0 hty hnm hown hE.1 hP hD hS q he hc k hk (hts _ hlink) (fun _ h => by rw [← hr]; exact h) hfin (hty k hk) hn hfit hl1 d (fun H1 locs1 hP1 hD1 hS1 => ?_)
  rw [hw] at hP1 hD1
  exact kk H1 locs1 ls hP1 hD1 hS1 hl
theorem kz_putF (fx : FX X l0 G cc Ts y nL fr lo mc ms tb) {a ci : Nat} {fs : List Value} {C ref : String} {T : u_T} {N index : Nat} {v : Value} (ty0 : Nat → FieldType) (q k : Nat) (he : w[q]? = some (a, .inr (ci, fs))) (hc : vwCl[ci]? = some (C, T, N)) (hin : ∀ u ∈ u_ws C T N, u ∈ Ts) (hty : ∀ k, k < N → parseFieldDescriptor (T k).2.2.1 = some (ty0 k)) (hnm : ∀ a, a < N → ∀ b, b < N → a ≠ b → (T a).2.1 ≠ (T b).2.1) (hk : k < N) (hlink : Cond.fieldLink y.cls index ref (T k).2.1 (T k).2.2.1 ∈ Ts) (hr : (T k).1 = ref) (hdecl : (T k).1 = y.cls) (hini : y.name = "<init>") (hfin : (T k).2.2.2 = true) (hn : narrow (ty0 k) v = v) (hfit : fits (ty0 k) v = true) (hl1 : k < fs.length) (d : decode cc pc = .ok (.putfield index, 3)) (hw : w.set q (a, .inr (ci, fs.set k v)) = w') (kk : KK X G lv w' cs sl (pc + 3) st) : KK X G lv w cs sl pc (v :: .ref a :: st) := by
  obtain ⟨p, l, e, R, s, m, args, below, meth, c, A, Q, nn⟩ := X
  obtain ⟨hx, hb, hml, rfl, hown, hts, hE, hA, hlocks, hname, hR, htb, hlt, rfl⟩ := fx
  intro H locs ls hP hD hS hl
  refine va_putF hx hb hts hin ty0 hty hnm hown hE.1 hP hD hS q he hc k hk (hts _ hlink) (fun _ h => by rw [← hr]; exact h) hfin (hname.trans hini) hdecl (hty k hk) hn hfit hl1 d (fun H1 locs1 hP1 hD1 hS1 => ?_)
  rw [hw] at hP1 hD1
  exact kk H1 locs1 ls hP1 hD1 hS1 hl
theorem kz_iald (fx : FX X l0 G cc Ts y nL fr lo mc ms tb) {a n : Nat} {f : Nat → Int} {z : Int} (q k : Nat) (ha : w[q]? = some (a, cI G n f)) (hz : z = (k : Int)) (hk : k < n) (hn : n < 2147483648) (d : decode cc pc = .ok (.iaload, 1)) (kk : KK X G lv w cs sl (pc + 1) (.int (iI (f k)) :: st)) : KK X G lv w cs sl pc (.int (iI z) :: .ref a :: st) := by
  subst hz
  obtain ⟨p, l, e, R, s, m, args, below, meth, c, A, Q, nn⟩ := X
  obtain ⟨hx, hb, hml, rfl, hown, hts, hE, hA, hlocks, hname, hR, htb, hlt, rfl⟩ := fx
  intro H locs ls hP hD hS hl
  refine va_iald hx hb hE.1 hP q 0 (f := fun j => iI (f j)) ha rfl (iI_in (by omega) (by omega) hn) d ?_
  have e : (iI (k : Int)).toNatClampNeg = k := by rw [iI_cl (by omega) (by omega)]; rfl
  rw [e]
  exact kk H locs ls hP hD hS hl
theorem kz_cald (fx : FX X l0 G cc Ts y nL fr lo mc ms tb) {a n : Nat} {f : Nat → Int} {z : Int} (q k : Nat) (ha : w[q]? = some (a, cC G n f)) (hz : z = (k : Int)) (hk : k < n) (hn : n < 2147483648) (d : decode cc pc = .ok (.caload, 1)) (kk : KK X G lv w cs sl (pc + 1) (.int (iI (f k)) :: st)) : KK X G lv w cs sl pc (.int (iI z) :: .ref a :: st) := by
  subst hz
  obtain ⟨p, l, e, R, s, m, args, below, meth, c, A, Q, nn⟩ := X
  obtain ⟨hx, hb, hml, rfl, hown, hts, hE, hA, hlocks, hname, hR, htb, hlt, rfl⟩ := fx
  intro H locs ls hP hD hS hl
  refine va_cald hx hb hE.1 hP q 1 (f := fun j => iI (f j)) ha rfl (iI_in (by omega) (by omega) hn) d ?_
  have e : (iI (k : Int)).toNatClampNeg = k := by rw [iI_cl (by omega) (by omega)]; rfl
  rw [e]
  exact kk H locs ls hP hD hS hl
theorem kz_lald0 (fx : FX X l0 G cc Ts y nL fr lo mc ms tb) {a : Nat} {f : Nat → Int64} (q : Nat) (ha : w[q]? = some (a, cL G 1 f)) (d : decode cc pc = .ok (.laload, 1)) (kk : KK X G lv w cs sl (pc + 1) (.long (f 0) :: st)) : KK X G lv w cs sl pc (.int (iI 0) :: .ref a :: st) := by
  obtain ⟨p, l, e, R, s, m, args, below, meth, c, A, Q, nn⟩ := X
  obtain ⟨hx, hb, hml, rfl, hown, hts, hE, hA, hlocks, hname, hR, htb, hlt, rfl⟩ := fx
  intro H locs ls hP hD hS hl
  refine va_lald hx hb hE.1 hP q 2 (f := f) ha rfl (iI_in (by omega) (by omega) (by omega)) d ?_
  have e : (iI 0).toNatClampNeg = 0 := by rw [iI_cl (by omega) (by omega)]; rfl
  rw [e]
  exact kk H locs ls hP hD hS hl
theorem kz_dald0 (fx : FX X l0 G cc Ts y nL fr lo mc ms tb) {a : Nat} {f : Nat → UInt64} (q : Nat) (ha : w[q]? = some (a, cD G 1 f)) (d : decode cc pc = .ok (.daload, 1)) (kk : KK X G lv w cs sl (pc + 1) (.double (f 0) :: st)) : KK X G lv w cs sl pc (.int (iI 0) :: .ref a :: st) := by
  obtain ⟨p, l, e, R, s, m, args, below, meth, c, A, Q, nn⟩ := X
  obtain ⟨hx, hb, hml, rfl, hown, hts, hE, hA, hlocks, hname, hR, htb, hlt, rfl⟩ := fx
  intro H locs ls hP hD hS hl
  refine va_dald hx hb hE.1 hP q 3 (f := f) ha rfl (iI_in (by omega) (by omega) (by omega)) d ?_
  have e : (iI 0).toNatClampNeg = 0 := by rw [iI_cl (by omega) (by omega)]; rfl
  rw [e]
  exact kk H locs ls hP hD hS hl
theorem kz_iast (fx : FX X l0 G cc Ts y nL fr lo mc ms tb) {a n : Nat} {f : Nat → Int} {z v : Int} (q k : Nat) (ha : w[q]? = some (a, cI G n f)) (hz : z = (k : Int)) (hk : k < n) (hn : n < 2147483648) (d : decode cc pc = .ok (.iastore, 1)) (hw : w.set q (a, cI G n (zup f k v)) = w') (kk : KK X G lv w' cs sl (pc + 1) st) : KK X G lv w cs sl pc (.int (iI v) :: .int (iI z) :: .ref a :: st) := by
  subst hz
  obtain ⟨p, l, e, R, s, m, args, below, meth, c, A, Q, nn⟩ := X
  obtain ⟨hx, hb, hml, rfl, hown, hts, hE, hA, hlocks, hname, hR, htb, hlt, rfl⟩ := fx
  intro H locs ls hP hD hS hl
  refine va_iast hx hb hE.1 hP hD hS q 0 (f := fun j => iI (f j)) ha rfl (iI_in (by omega) (by omega) hn) d (fun H1 locs1 hP1 hD1 hS1 => ?_)
  have e : (iI (k : Int)).toNatClampNeg = k := by rw [iI_cl (by omega) (by omega)]; rfl
  rw [e, upd_zup] at hP1 hD1
  rw [show w.set q (a, .inl (G.2.1, n, .inl (fun j => iI (zup f k v j)))) = w' from hw] at hP1 hD1
  exact kk H1 locs1 ls hP1 hD1 hS1 hl
theorem kz_cast (fx : FX X l0 G cc Ts y nL fr lo mc ms tb) {a n : Nat} {f : Nat → Int} {z v : Int} (q k : Nat) (ha : w[q]? = some (a, cC G n f)) (hz : z = (k : Int)) (hk : k < n) (hn : n < 2147483648) (hv : vp_nar .char (iI v) = iI v) (d : decode cc pc = .ok (.castore, 1)) (hw : w.set q (a, cC G n (zup f k v)) = w') (kk : KK X G lv w' cs sl (pc + 1) st) : KK X G lv w cs sl pc (.int (iI v) :: .int (iI z) :: .ref a :: st) := by
  subst hz
  obtain ⟨p, l, e, R, s, m, args, below, meth, c, A, Q, nn⟩ := X
  obtain ⟨hx, hb, hml, rfl, hown, hts, hE, hA, hlocks, hname, hR, htb, hlt, rfl⟩ := fx
  intro H locs ls hP hD hS hl
  refine va_cast hx hb hE.1 hP hD hS q 1 (f := fun j => iI (f j)) ha rfl (iI_in (by omega) (by omega) hn) d (fun H1 locs1 hP1 hD1 hS1 => ?_)
  have e : (iI (k : Int)).toNatClampNeg = k := by rw [iI_cl (by omega) (by omega)]; rfl
  rw [e, hv, upd_zup] at hP1 hD1
  rw [show w.set q (a, .inl (G.2.2.1, n, .inl (fun j => iI (zup f k v j)))) = w' from hw] at hP1 hD1
  exact kk H1 locs1 ls hP1 hD1 hS1 hl
theorem kz_last0 (fx : FX X l0 G cc Ts y nL fr lo mc ms tb) {a : Nat} {f : Nat → Int64} {v : Int64} (q : Nat) (ha : w[q]? = some (a, cL G 1 f)) (d : decode cc pc = .ok (.lastore, 1)) (hw : w.set q (a, cL G 1 (vp_updL f 0 v)) = w') (kk : KK X G lv w' cs sl (pc + 1) st) : KK X G lv w cs sl pc (.long v :: .int (iI 0) :: .ref a :: st) := by
  obtain ⟨p, l, e, R, s, m, args, below, meth, c, A, Q, nn⟩ := X
  obtain ⟨hx, hb, hml, rfl, hown, hts, hE, hA, hlocks, hname, hR, htb, hlt, rfl⟩ := fx
  intro H locs ls hP hD hS hl
  refine va_last hx hb hE.1 hP hD hS q 2 (f := f) ha rfl (iI_in (by omega) (by omega) (by omega)) d (fun H1 locs1 hP1 hD1 hS1 => ?_)
  have e : (iI 0).toNatClampNeg = 0 := by rw [iI_cl (by omega) (by omega)]; rfl
  rw [e] at hP1 hD1
  rw [show w.set q (a, .inl (G.2.2.2.1, 1, .inr (.inl (vp_updL f 0 v)))) = w' from hw] at hP1 hD1
  exact kk H1 locs1 ls hP1 hD1 hS1 hl
theorem kz_dast0 (fx : FX X l0 G cc Ts y nL fr lo mc ms tb) {a : Nat} {f : Nat → UInt64} {v : UInt64} (q : Nat) (ha : w[q]? = some (a, cD G 1 f)) (d : decode cc pc = .ok (.dastore, 1)) (hw : w.set q (a, cD G 1 (vf_upd f 0 v)) = w') (kk : KK X G lv w' cs sl (pc + 1) st) : KK X G lv w cs sl pc (.double v :: .int (iI 0) :: .ref a :: st) := by
  obtain ⟨p, l, e, R, s, m, args, below, meth, c, A, Q, nn⟩ := X
  obtain ⟨hx, hb, hml, rfl, hown, hts, hE, hA, hlocks, hname, hR, htb, hlt, rfl⟩ := fx
  intro H locs ls hP hD hS hl
  refine va_dast hx hb hE.1 hP hD hS q 3 (f := f) ha rfl (iI_in (by omega) (by omega) (by omega)) d (fun H1 locs1 hP1 hD1 hS1 => ?_)
  have e : (iI 0).toNatClampNeg = 0 := by rw [iI_cl (by omega) (by omega)]; rfl
  rw [e] at hP1 hD1
  rw [show w.set q (a, .inl (G.2.2.2.2, 1, .inr (.inr (.inr (.inl (vf_upd f 0 v)))))) = w' from hw] at hP1 hD1
  exact kk H1 locs1 ls hP1 hD1 hS1 hl
theorem kz_ialen (fx : FX X l0 G cc Ts y nL fr lo mc ms tb) {a n : Nat} {f : Nat → Int} (q : Nat) (ha : w[q]? = some (a, cI G n f)) (d : decode cc pc = .ok (.arraylength, 1)) (kk : KK X G lv w cs sl (pc + 1) (.int (iI n) :: st)) : KK X G lv w cs sl pc (.ref a :: st) := by
  obtain ⟨p, l, e, R, s, m, args, below, meth, c, A, Q, nn⟩ := X
  obtain ⟨hx, hb, hml, rfl, hown, hts, hE, hA, hlocks, hname, hR, htb, hlt, rfl⟩ := fx
  intro H locs ls hP hD hS hl
  exact va_alen hx hb hE.1 hP q 0 (ty := .int) ha rfl (v := iI n) (iI_n n).symm d (kk H locs ls hP hD hS hl)
/-- ends -/
theorem kz_iret (fx : FX X l0 G cc Ts y nL fr lo mc ms tb) (rx : RX X G (some .int) P mc ms) {v : Int32} (d : decode cc pc = .ok (.ireturn, 1)) (hc : cs ≤ mc) (hs : sl ≤ ms) (hq : P (.inl (some (.int v))) w) : KK X G lv w cs sl pc [.int v] := by
  obtain ⟨p, l, e, R, s, m, args, below, meth, c, A, Q, nn⟩ := X
  obtain ⟨hx, hb, hml, rfl, hown, hts, hE, hA, hlocks, hname, hR, htb, hlt, rfl⟩ := fx
  intro H locs ls hP hD hS hl
  obtain ⟨hr, rfl⟩ := rx
  refine vx_ret (W.widen hc hs ?_)
  exact W.iret hx hb hr (fun t ht hW => ⟨⟨_, w, rfl, hq, by rw [ht]; exact hP, hD⟩, hS.F ht⟩) hS.2.2 d hlocks
theorem kz_zret (fx : FX X l0 G cc Ts y nL fr lo mc ms tb) {ty : FieldType} (rx : RX X G (some ty) P mc ms) {v : Int32} (hn : narrow ty (.int v) = .int v) (d : decode cc pc = .ok (.ireturn, 1)) (hc : cs ≤ mc) (hs : sl ≤ ms) (hq : P (.inl (some (.int v))) w) : KK X G lv w cs sl pc [.int v] := by
  obtain ⟨p, l, e, R, s, m, args, below, meth, c, A, Q, nn⟩ := X
  obtain ⟨hx, hb, hml, rfl, hown, hts, hE, hA, hlocks, hname, hR, htb, hlt, rfl⟩ := fx
  intro H locs ls hP hD hS hl
  obtain ⟨hr, rfl⟩ := rx
  refine vx_ret (W.widen hc hs ?_)
  exact W.zret hx hb hr hn (fun t ht hW => ⟨⟨_, w, rfl, hq, by rw [ht]; exact hP, hD⟩, hS.F ht⟩) hS.2.2 d hlocks
theorem kz_vret (fx : FX X l0 G cc Ts y nL fr lo mc ms tb) (rx : RX X G none P mc ms) (d : decode cc pc = .ok (.return_, 1)) (hc : cs ≤ mc) (hs : sl ≤ ms) (hq : P (.inl none) w) : KK X G lv w cs sl pc [] := by
  obtain ⟨p, l, e, R, s, m, args, below, meth, c, A, Q, nn⟩ := X
  obtain ⟨hx, hb, hml, rfl, hown, hts, hE, hA, hlocks, hname, hR, htb, hlt, rfl⟩ := fx
  intro H locs ls hP hD hS hl
  obtain ⟨hr, rfl⟩ := rx
  refine vx_ret (W.widen hc hs ?_)
  exact W.vret hx hb hr (fun t ht hW => ⟨⟨_, w, rfl, hq, by rw [ht]; exact hP, hD⟩, hS.F ht⟩) hS.2.2 d hlocks
theorem kz_fret (fx : FX X l0 G cc Ts y nL fr lo mc ms tb) (rx : RX X G (some .float) P mc ms) {v : UInt32} (d : decode cc pc = .ok (.freturn, 1)) (hc : cs ≤ mc) (hs : sl ≤ ms) (hq : P (.inl (some (.float v))) w) : KK X G lv w cs sl pc [.float v] := by
  obtain ⟨p, l, e, R, s, m, args, below, meth, c, A, Q, nn⟩ := X
  obtain ⟨hx, hb, hml, rfl, hown, hts, hE, hA, hlocks, hname, hR, htb, hlt, rfl⟩ := fx
  intro H locs ls hP hD hS hl
  obtain ⟨hr, rfl⟩ := rx
  refine vx_ret (W.widen hc hs ?_)
  exact W.fret hx hb hr (fun t ht hW => ⟨⟨_, w, rfl, hq, by rw [ht]; exact hP, hD⟩, hS.F ht⟩) hS.2.2 d hlocks
theorem kz_dret (fx : FX X l0 G cc Ts y nL fr lo mc ms tb) (rx : RX X G (some .double) P mc ms) {v : UInt64} (d : decode cc pc = .ok (.dreturn, 1)) (hc : cs ≤ mc) (hs : sl ≤ ms) (hq : P (.inl (some (.double v))) w) : KK X G lv w cs sl pc [.double v] := by
  obtain ⟨p, l, e, R, s, m, args, below, meth, c, A, Q, nn⟩ := X
  obtain ⟨hx, hb, hml, rfl, hown, hts, hE, hA, hlocks, hname, hR, htb, hlt, rfl⟩ := fx
  intro H locs ls hP hD hS hl
  obtain ⟨hr, rfl⟩ := rx
  refine vx_ret (W.widen hc hs ?_)
  exact W.dret hx hb hr (fun t ht hW => ⟨⟨_, w, rfl, hq, by rw [ht]; exact hP, hD⟩, hS.F ht⟩) hS.2.2 d hlocks
theorem kz_aret (fx : FX X l0 G cc Ts y nL fr lo mc ms tb) {ty : FieldType} (rx : RX X G (some (.array ty)) P mc ms) {v : Nat} (d : decode cc pc = .ok (.areturn, 1)) (hc : cs ≤ mc) (hs : sl ≤ ms) (hq : P (.inl (some (.ref v))) w) : KK X G lv w cs sl pc [.ref v] := by
  obtain ⟨p, l, e, R, s, m, args, below, meth, c, A, Q, nn⟩ := X
  obtain ⟨hx, hb, hml, rfl, hown, hts, hE, hA, hlocks, hname, hR, htb, hlt, rfl⟩ := fx
  intro H locs ls hP hD hS hl
  obtain ⟨hr, rfl⟩ := rx
  refine vx_ret (W.widen hc hs ?_)
  exact W.aret hx hb hr (Or.inr ⟨_, rfl⟩) (Or.inr ⟨_, rfl⟩) (fun t ht hW => ⟨⟨_, w, rfl, hq, by rw [ht]; exact hP, hD⟩, hS.F ht⟩) hS.2.2 d hlocks
/-- the state of a point may be changed for another of the same meaning -/
theorem KK.sub {ks : List Nat} (hl : lv_pick lv ks = lv') (kk : KK X G lv' w cs sl pc st) : KK X G lv w cs sl pc st := by
  obtain ⟨p, l, e, R, s, m, args, below, meth, c, A, Q, nn⟩ := X
  intro H locs ls hP hD hS h
  exact kk H locs ls hP hD hS (lv_sub h ks hl)
theorem KK.lve (hl : lv = lv') (kk : KK X G lv' w cs sl pc st) : KK X G lv w cs sl pc st := hl ▸ kk
theorem KK.we (hl : w = w') (kk : KK X G lv w' cs sl pc st) : KK X G lv w cs sl pc st := hl ▸ kk
theorem arrV_cg {c : ClassId} {n : Nat} {f g : Nat → Value} (h : ∀ j, j < n → f j = g j) : arrV c n f = arrV c n g := by
  unfold arrV
  congr 1
  apply Array.ext
  · simp
  · intro i h1 h2
    simp only [Array.getElem_ofFn]
    exact h i (by simpa using h1)
theorem KK.cong {a n : Nat} {f g : Nat → Int} (q : Nat) (ha : w[q]? = some (a, cI G n f)) (h : ∀ j, j < n → f j = g j) (hw : w.set q (a, cI G n g) = w') (kk : KK X G lv w' cs sl pc st) : KK X G lv w cs sl pc st := by
  obtain ⟨p, l, e, R, s, m, args, below, meth, c, A, Q, nn⟩ := X
  intro H locs ls hP hD hS hl
  have hcell : va_at G.1 vwCl (a, cI G n g) H := by
    have h1 := hP q _ ha
    show H[a]? = some (vp_cell G.2.1 (n, .inl fun j => iI (g j)))
    have h2 : H[a]? = some (vp_cell G.2.1 (n, .inl fun j => iI (f j))) := h1
    rw [h2, vp_cell_i, vp_cell_i]
    exact congrArg some (arrV_cg (fun j hj => by rw [h j hj]))
  have hP' := hP.set hD ha hcell (fun z _ => rfl)
  have hD' := hD.set (e := cI G n g) ha
  rw [hw] at hP' hD'
  exact kk H locs ls hP' hD' hS hl
theorem lv_c {i : Nat} {a b : Int} {l l' : List (Nat × Value)} (h : a = b) (h2 : l = l') : (i, Value.int (iI a)) :: l = (i, Value.int (iI b)) :: l' := by rw [h, h2]
theorem lv_k {x : Nat × Value} {l l' : List (Nat × Value)} (h2 : l = l') : x :: l = x :: l' := by rw [h2]
theorem KK.wid {k n : Nat} (h1 : cs ≤ k) (h2 : sl ≤ n) (kk : KK X G lv w k n pc st) : KK X G lv w cs sl pc st := by
  obtain ⟨p, l, e, R, s, m, args, below, meth, c, A, Q, nn⟩ := X
  intro H locs ls hP hD hS h
  exact W.widen h1 h2 (kk H locs ls hP hD hS h)
theorem kz_loop {σ : Type} (μ : σ → Nat) (I : σ → Prop) (K : σ → Prop) (hs : ∀ x, I x → (∀ z, I z → μ z < μ x → K z) → K x) (x : σ) (h : I x) : K x := by
  have key : ∀ n x, μ x < n → I x → K x := by
    intro n
    induction n with
    | zero => intro x hx; omega
    | succ n ih => intro x hx hI; exact hs x hI (fun z hz hm => ih z (by omega) hz)
  exact key _ x (Nat.lt_succ_self _) h
end KZ
