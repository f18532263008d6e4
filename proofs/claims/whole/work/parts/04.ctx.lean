/-! THE CONTEXT OF A METHOD'S WALK: what never changes in it, hidden behind J; contracts; calls. -/
/-! what nobody writes: static fields, tables, constant objects and their fields, at the addresses ro -/
/-- null or some reference -/
def nlV (n : Nat) : Value := if n = 0 then .null else .ref (n - 1)
def roZ : List (String × String × String × ((Nat → Nat) → Value)) := [("TreatyRouter", "WORDS", "[LTreatyRouter$Word;", fun ro => .ref (ro 0)), ("TreatyRouter$1", "$SwitchMap$TreatyRouter$Word", "[I", fun ro => .ref (ro 1)), ("TreatyRouter$Book", "BOUNDS", "[I", fun ro => .ref (ro 2)), ("java/lang/Integer", "DigitOnes", "[B", fun ro => .ref (ro 3)), ("java/lang/Integer", "DigitTens", "[B", fun ro => .ref (ro 4)), ("java/lang/String", "COMPACT_STRINGS", "Z", fun _ => .int 1), ("jdk/internal/util/Preconditions", "SIOOBE_FORMATTER", "Ljava/util/function/BiFunction;", fun ro => nlV (ro 9))]
def roKn : List Int32 := [108, 97, 110, 100, 32, 102, 105, 114, 109, 32, 111, 119, 110, 115, 32, 108, 101, 110, 100, 115, 32, 116, 114, 101, 97, 116, 121, 32, 101, 110, 100, 115, 32, 121, 101, 97, 114, 32, 112, 97, 121, 32, 112, 97, 115, 115, 32, 115, 116, 97, 102, 102, 32, 111, 119, 110, 32, 108, 101, 110, 100, 32]
def roB : List Int32 := [99, 1000, 1000, 1000, 100, 20, 99, 2]
def roT : List (FieldType × Nat × Nat × ((Nat → Nat) → Nat → Value)) := [(.int, 2, 8, fun _ j => .int (roB.getD j 0)), (.int, 1, 12, fun _ j => .int (([1, 2, 3, 4, 5, 6, 7, 0, 0, 0, 0, 0] : List Int32).getD j 0)), (.object "TreatyRouter$Word", 0, 12, fun ro j => .ref (ro (10 + j))), (.byte, 6, 62, fun _ j => .int (roKn.getD j 0)), (.byte, 8, 2, fun _ j => .int (([32, 62] : List Int32).getD j 0)), (.byte, 3, 100, fun _ j => .int (Int32.ofNat (48 + j % 10))), (.byte, 4, 100, fun _ j => .int (Int32.ofNat (48 + j / 10)))]
def roO : List (String × Nat) := ("java/lang/String", 5) :: ("java/lang/String", 7) :: (List.range 12).map (fun i => ("TreatyRouter$Word", 10 + i))
/-- by constant: the code of its letters, its act, how many numbers, its place -/
def roCode : List Int64 := [145452, 444710, 637679, 20068524, 859870804, 627141, 591033, 25648, 642096, 6489747, 15087, 145580]
def roAct : List Int32 := [(-1), (-1), (-1), (-1), (-1), (-1), (-1), 0, 1, 2, 3, 4]
def roNum : List Int32 := [0, 0, 0, 0, 0, 0, 0, 4, 1, 2, 3, 2]
def roF : List (String × String × String × ((Nat → Nat) → Value) × Nat) := ("java/lang/String", "coder", "B", (fun _ => .int 0), 5) :: ("java/lang/String", "value", "[B", (fun ro => .ref (ro 6)), 5) :: ("java/lang/String", "coder", "B", (fun _ => .int 0), 7) :: ("java/lang/String", "value", "[B", (fun ro => .ref (ro 8)), 7) :: (List.range 12).map (fun i => ("TreatyRouter$Word", "code", "J", (fun _ => .long (roCode.getD i 0)), 10 + i)) ++ ((List.range 12).map (fun i => ("TreatyRouter$Word", "act", "I", (fun _ => .int (roAct.getD i 0)), 10 + i)) ++ ((List.range 12).map (fun i => ("TreatyRouter$Word", "numbers", "I", (fun _ => .int (roNum.getD i 0)), 10 + i)) ++ (List.range 12).map (fun i => ("java/lang/Enum", "ordinal", "I", (fun _ => .int (Int32.ofNat i)), 10 + i))))
def xRO (ro : Nat → Nat) (A : Nat → Prop) (U : State) (H : Heap) : Prop :=
  (∀ q ∈ roZ, va_Z q.1 q.2.1 q.2.2.1 (q.2.2.2 ro) A U H) ∧ (∀ q ∈ roT, va_T q.1 (ro q.2.1) q.2.2.1 (q.2.2.2 ro) A U H) ∧ (∀ q ∈ roO, va_O q.1 (ro q.2) A U H) ∧ (∀ q ∈ roF, va_OF q.1 q.2.1 q.2.2.1 (q.2.2.2.1 ro) (ro q.2.2.2.2) A U H)
theorem xRO.moved {ro : Nat → Nat} {A : Nat → Prop} {u U : State} {H : Heap} (hvm : u.vm.Alike U.vm) (h : xRO ro A u H) : xRO ro A U H :=
  ⟨fun q hq => va_Z.moved hvm (h.1 q hq), fun q hq => va_T.moved hvm (h.2.1 q hq), fun q hq => va_O.moved hvm (h.2.2.1 q hq), fun q hq => va_OF.moved hvm (h.2.2.2 q hq)⟩
theorem xRO.kept {ro : Nat → Nat} {A : Nat → Prop} {U : State} {H H1 : Heap} (h : xRO ro A U H) (hk : ∀ a : Nat, a < H.size → ¬ A a → H1[a]? = H[a]?) : xRO ro A U H1 :=
  ⟨fun q hq => (h.1 q hq).kept hk, fun q hq => (h.2.1 q hq).kept hk, fun q hq => (h.2.2.1 q hq).kept hk, fun q hq => (h.2.2.2 q hq).kept hk⟩
theorem xRO.narrow {ro : Nat → Nat} {A B : Nat → Prop} {U : State} {H : Heap} (h : xRO ro A U H) (hAB : ∀ q, B q → A q) : xRO ro B U H :=
  ⟨fun q hq => (h.1 q hq).narrow hAB, fun q hq => (h.2.1 q hq).narrow hAB, fun q hq => (h.2.2.1 q hq).narrow hAB, fun q hq => (h.2.2.2 q hq).narrow hAB⟩
/-- links to a nest mate's private members; String constants; the array class over Script -/
def roM : List (String × Nat × MethodName × String) := [("TreatyRouter", 9, ⟨"TreatyRouter$Reader", "<init>", "()V"⟩, "TreatyRouter"), ("TreatyRouter", 24, ⟨"TreatyRouter$Finder", "<init>", "()V"⟩, "TreatyRouter"), ("TreatyRouter$Finder", 11, ⟨"TreatyRouter$Way", "<init>", "()V"⟩, "TreatyRouter"), ("TreatyRouter", 40, ⟨"TreatyRouter$History", "<init>", "()V"⟩, "TreatyRouter"), ("TreatyRouter", 47, ⟨"TreatyRouter$Log", "<init>", "()V"⟩, "TreatyRouter"), ("TreatyRouter", 71, ⟨"TreatyRouter$Book", "<init>", "()V"⟩, "TreatyRouter"), ("TreatyRouter", 106, ⟨"TreatyRouter$Script", "<init>", "()V"⟩, "TreatyRouter"), ("TreatyRouter$Acts", 46, ⟨"TreatyRouter", "isSort", "(I)Z"⟩, "TreatyRouter"), ("TreatyRouter$Acts", 49, ⟨"TreatyRouter", "isAmount", "(I)Z"⟩, "TreatyRouter")]
def roS : List (String × Nat × String × Nat) := [("TreatyRouterModel", 147, "land firm owns lends treaty ends year pay pass staff own lend ", 5), ("TreatyRouter$Way", 41, " >", 7)]
def xNw (ro : Nat → Nat) (U : State) : Prop := (∀ q ∈ roM, va_Nw (.methodLinkNest q.1 q.2.1 q.2.2.1 q.2.2.2) U) ∧ va_Nw (.fieldLinkNest "TreatyRouter$Word" 88 "TreatyRouter" "WORDS" "[LTreatyRouter$Word;" "TreatyRouter") U ∧ (∀ q ∈ roS, vk_R q.1 q.2.1 q.2.2.1 (ro q.2.2.2) U) ∧ va_AO "TreatyRouter$Script" U
theorem xNw.same {ro : Nat → Nat} {u U : State} (h : u.vm = U.vm) (hZ : xNw ro u) : xNw ro U := ⟨fun q hq => (hZ.1 q hq).same rfl h, hZ.2.1.same rfl h, fun q hq => (hZ.2.2.1 q hq).same h.symm, va_AO.moved (by rw [h]; exact Vm.Alike.refl _) hZ.2.2.2⟩
theorem xNw.warm {ro : Nat → Nat} {s U : State} (hW : s.WarmedH U.vm) (hZ : xNw ro s) : xNw ro U := ⟨fun q hq => va_Nw.warmM hW (hZ.1 q hq), va_Nw.warmF hW hZ.2.1, fun q hq => (hZ.2.2.1 q hq).warm hW, va_AO.moved hW.alike hZ.2.2.2⟩
/-- the array classes by kind -/
def xtys (cA : Nat → ClassId) : List (ClassId × FieldType) := [(cA 0, .int), (cA 1, .byte), (cA 2, .long), (cA 3, .object "TreatyRouter$Script")]
abbrev xws (cA : Nat → ClassId) (μ : Hp) (L : List Nat) : va_W := va_pl L (cellOf cA μ)
def xRep (D : va_G) (cA : Nat → ClassId) (A0 : Nat → Prop) (H0 : Heap) (μ : Hp) (L : List Nat) (H : Heap) (locs : List Loc) : Prop :=
  va_P D vwCl (xws cA μ L) H ∧ va_D A0 (xws cA μ L) ∧ (∀ a x, hS μ a = some x → a ∈ L) ∧ va_S A0 H0 H locs
abbrev JT : Type := Hp → Nat → Nat → Nat → List (Nat × Value) → List Value → Prop
def xJ (p : Program) (l : Launch) (e : Env) (R : Room) (s : State) (m : MethodId) (args : Array Value) (below : List Frame) (meth : Method) (c : Code) (D : va_G) (cA : Nat → ClassId) (A0 : Nat → Prop) (nL : Nat) (Q : State → Prop) : JT := fun μ k n pc lv st =>
  ∀ (L : List Nat) (H : Heap) (locs : List Loc) (ls : Array Slot), xRep D cA A0 s.heap μ L H locs → lv_has ls nL lv → W p l e R s m args below meth c H locs k n Q (F0 m pc ls st)
def xCtx (own : String) (cc : ByteArray) (nL d mc ms : Nat) (yn : String) (ro : Nat → Nat) (J : JT) : Prop :=
  ∃ (p : Program) (l : Launch) (e : Env) (R : Room) (s : State) (m : MethodId) (args : Array Value) (below : List Frame) (meth : Method) (c : Code) (D : va_G) (cA : Nat → ClassId) (A0 : Nat → Prop) (Q : State → Prop),
    J = xJ p l e R s m args below meth c D cA A0 nL Q ∧ (p.tables.exec = Jvm.exec ∧ c.code = cc ∧ c.maxLocals = nL ∧ s.vm.findClass own = some m.cls ∧ ∀ w ∈ gtbl, w.before args s = true) ∧ va_K D vwCl (xtys cA) s ∧ (∀ q, s.heap.size ≤ q → A0 q) ∧ (xRO ro A0 s s.heap ∧ xNw ro s) ∧ (d ≤ R.frames ∧ 64 * d ≤ R.locals ∧ mc ≤ R.cells ∧ ms ≤ R.slots) ∧ meth.name = yn
/-- a method's contract: with these arguments, from this heap, it returns, and Z holds of its answer and the heap then; d: depth, mc, ms: cells and slots that it may make -/
def xC (d : Nat) (y : MethodName) (cc : ByteArray) (nL : Nat) (rt : Option FieldType) (mc ms : Nat) (As : List Value) (μ : Hp) (ro : Nat → Nat) (Z : Option Value → Hp → Prop) : Prop :=
  ∀ (l : Launch) (D : va_G) (cA : Nat → ClassId) (L : List Nat) (sz : Nat),
    Met l y (.code y cc nL rt :: gtbl) { frames := d, cells := mc, slots := ms, locals := 64 * d }
      (va_Pc As (fun U => U.heap.size = sz ∧ va_P D vwCl (xws cA μ L) U.heap ∧ va_K D vwCl (xtys cA) U ∧ va_D (fun _ => True) (xws cA μ L) ∧ (∀ a x, hS μ a = some x → a ∈ L) ∧ xRO ro (va_A (xws cA μ L) sz) U U.heap ∧ xNw ro U))
      (fun _ st o t => (∃ (r : Option Value) (μ' : Hp) (L' : List Nat), o = .returned r ∧ Z r μ' ∧ va_P D vwCl (xws cA μ' L') t.heap ∧ va_D (va_A (xws cA μ L) sz) (xws cA μ' L') ∧ (∀ a x, hS μ' a = some x → a ∈ L')) ∧ va_F (va_A (xws cA μ L) sz) st t)
      mc ms (va_A (xws cA μ L) sz)
/-- the method's own ends -/
def xRet (cc : ByteArray) (rt : Option FieldType) (mc ms : Nat) (Z : Option Value → Hp → Prop) (J : JT) : Prop :=
  (rt = none → ∀ (μ : Hp) (k n pc : Nat) (lv : List (Nat × Value)), decode cc pc = .ok (.return_, 1) → k ≤ mc → n ≤ ms → Z none μ → J μ k n pc lv []) ∧
  (∀ ty, rt = some ty → ∀ (μ : Hp) (k n pc : Nat) (lv : List (Nat × Value)) (v : Int32), decode cc pc = .ok (.ireturn, 1) → narrow ty (.int v) = .int v → k ≤ mc → n ≤ ms → Z (some (.int v)) μ → J μ k n pc lv [.int v]) ∧
  (rt = some .long → ∀ (μ : Hp) (k n pc : Nat) (lv : List (Nat × Value)) (v : Int64), decode cc pc = .ok (.lreturn, 1) → k ≤ mc → n ≤ ms → Z (some (.long v)) μ → J μ k n pc lv [.long v]) ∧
  (∀ ty, rt = some ty → ((∃ n, ty = .object n) ∨ ∃ t, ty = .array t) → ∀ (μ : Hp) (k n pc : Nat) (lv : List (Nat × Value)) (v : Value), decode cc pc = .ok (.areturn, 1) → (v = .null ∨ ∃ a, v = .ref a) → k ≤ mc → n ≤ ms → Z (some v) μ → J μ k n pc lv [v])
set_option maxHeartbeats 4000000 in
set_option maxRecDepth 100000 in
theorem xC_intro {d : Nat} {y : MethodName} {cc : ByteArray} {nL : Nat} {rt : Option FieldType} {mc ms : Nat} {As : List Value} {μ : Hp} {ro : Nat → Nat} {Z : Option Value → Hp → Prop} {own : String} {lv : List (Nat × Value)}
    (hy : plainName y.cls = true) (hown0 : y.cls = own) (hlen : (lg_sl As).length ≤ nL) (hlv : lv_args 0 As = lv)
    (h : ∀ J, xCtx own cc nL d mc ms y.name ro J → xRet cc rt mc ms Z J → J μ 0 0 0 lv []) : xC d y cc nL rt mc ms As μ ro Z := by
  intro l D cA L sz
  refine Met.ofW (cc := cc) (maxL := nL) (ret := rt) hy rfl ?_
  intro p e s m args below meth c s₁ B hml hv
  obtain ⟨rfl, hsz, hP, hK, hD0, hLd, hRO, hNw⟩ := hv
  have hx := B.exec
  have hb := B.bytes
  have hr := B.returns
  have hts := atoms_spec (ws := .code y cc nL rt :: gtbl) B.pre
  have hown : s.vm.findClass own = some m.cls := by rw [← hown0]; exact findClass_of_methodNamed B.named
  have hlocks := B.notSynchronized
  have hin : meth.name = y.name := (name_of_methodNamed B.named B.method).1
  subst hsz
  have hD := hD0.self (sz := s.heap.size)
  have hA : ∀ q : Nat, s.heap.size ≤ q → va_A (xws cA μ L) s.heap.size q := fun q h => Or.inr h
  have hl := lv_entry As (n := nL) hlen
  rw [lg_entry_eq]
  rw [hlv] at hl
  have hctx : xCtx own cc nL d mc ms y.name ro (xJ p l e (headSpec (.code y cc nL rt :: gtbl) { frames := d, cells := mc, slots := ms, locals := 64 * d }).room s m As.toArray below meth c D cA (va_A (xws cA μ L) s.heap.size) nL (MQ below (fun _ st o t => (∃ (r : Option Value) (μ' : Hp) (L' : List Nat), o = .returned r ∧ Z r μ' ∧ va_P D vwCl (xws cA μ' L') t.heap ∧ va_D (va_A (xws cA μ L) s.heap.size) (xws cA μ' L') ∧ (∀ a x, hS μ' a = some x → a ∈ L')) ∧ va_F (va_A (xws cA μ L) s.heap.size) st t) As.toArray s mc ms (va_A (xws cA μ L) s.heap.size))) :=
    ⟨p, l, e, _, s, m, _, below, meth, c, D, cA, _, _, rfl, ⟨hx, hb, hml, hown, fun w hw => hts w (List.mem_cons_of_mem _ hw)⟩, hK, hA, ⟨hRO, hNw⟩, ⟨Nat.le_refl _, Nat.le_refl _, Nat.le_refl _, Nat.le_refl _⟩, hin⟩
  refine h _ hctx ⟨?_, ?_, ?_, ?_⟩ L s.heap [] _ ⟨hP, hD, hLd, va_S.rf⟩ hl
  · intro hrt μ1 k n pc lv1 hdg hk hn hZ L1 H locs ls ⟨hP1, hD1, hL1, hS1⟩ _
    subst hrt
    refine W.widen hk hn ?_
    exact W.vret hx hb hr (fun t ht hW => ⟨⟨_, μ1, L1, rfl, hZ, by rw [ht]; exact hP1, hD1, hL1⟩, hS1.F ht⟩) hS1.2.2 hdg
  · intro ty hrt μ1 k n pc lv1 v hdg hnr hk hn hZ L1 H locs ls ⟨hP1, hD1, hL1, hS1⟩ _
    subst hrt
    refine W.widen hk hn ?_
    exact W.zret hx hb hr hnr (fun t ht hW => ⟨⟨_, μ1, L1, rfl, hZ, by rw [ht]; exact hP1, hD1, hL1⟩, hS1.F ht⟩) hS1.2.2 hdg
  · intro hrt μ1 k n pc lv1 v hdg hk hn hZ L1 H locs ls ⟨hP1, hD1, hL1, hS1⟩ _
    subst hrt
    refine W.widen hk hn ?_
    exact W.lret hx hb hr (fun t ht hW => ⟨⟨_, μ1, L1, rfl, hZ, by rw [ht]; exact hP1, hD1, hL1⟩, hS1.F ht⟩) hS1.2.2 hdg
  · intro ty hrt hty μ1 k n pc lv1 v hdg hv hk hn hZ L1 H locs ls ⟨hP1, hD1, hL1, hS1⟩ _
    subst hrt
    refine W.widen hk hn ?_
    exact W.aret hx hb hr hty hv (fun t ht hW => ⟨⟨_, μ1, L1, rfl, hZ, by rw [ht]; exact hP1, hD1, hL1⟩, hS1.F ht⟩) hS1.2.2 hdg
