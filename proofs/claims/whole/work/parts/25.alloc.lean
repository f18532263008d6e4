/-- the default of a field of each sort -/
def dflt (s : Nat) : Value := match s with
  | 0 => .int 0
  | 1 => .long 0
  | _ => .null
theorem fval_new {μ : Hp} {a kd n c j : Nat} : fval (wN μ a kd n) a c j = dflt (fk c j) := by
  have e1 : hI (wN μ a kd n) a = fun _ => 0 := va_up_self _ _ _
  have e2 : hL (wN μ a kd n) a = fun _ => 0 := va_up_self _ _ _
  have e3 : hR (wN μ a kd n) a = fun _ => none := va_up_self _ _ _
  unfold fval dflt
  rw [e1, e2, e3]
  generalize fk c j = z
  rcases z with _ | _ | z <;> rfl
theorem xfresh {A0 : Nat → Prop} {cA : Nat → ClassId} {μ : Hp} {L : List Nat} {q : Nat} {e : va_E} (hD : va_D A0 (xws cA μ L ++ [(q, e)])) : q ∉ L := by
  intro hq
  obtain ⟨j, hj⟩ := xget (cA := cA) (μ := μ) hq
  have hjl : j < (xws cA μ L).length := (List.getElem?_eq_some_iff.mp hj).1
  have h1 : (xws cA μ L ++ [(q, e)])[j]? = some (q, cellOf cA μ q) := by rw [List.getElem?_append_left hjl]; exact hj
  have h2 : (xws cA μ L ++ [(q, e)])[(xws cA μ L).length]? = some (q, e) := by rw [List.getElem?_append_right (Nat.le_refl _), Nat.sub_self]; rfl
  have := hD.1 _ _ _ _ h1 h2 rfl
  omega
theorem xpush {cA : Nat → ClassId} {μ : Hp} {L : List Nat} {q kd N : Nat} {e : va_E} (hq : q ∉ L) (he : cellOf cA (wN μ q kd N) q = e) : xws cA μ L ++ [(q, e)] = xws cA (wN μ q kd N) (L ++ [q]) := by
  show va_pl L _ ++ [(q, e)] = _
  rw [va_pl_push hq]
  exact va_pl_congr (cell_up wN_ne he)
theorem xpushL {μ : Hp} {L : List Nat} {q kd N : Nat} (hL1 : ∀ a x, hS μ a = some x → a ∈ L) : ∀ a x, hS (wN μ q kd N) a = some x → a ∈ L ++ [q] := by
  intro a x h
  by_cases ha : a = q
  · subst ha; exact List.mem_append_right _ List.mem_cons_self
  · have : hS (wN μ q kd N) a = hS μ a := va_up_ne _ _ ha
    rw [this] at h
    exact List.mem_append_left _ (hL1 a x h)
theorem hS_wN_o {μ : Hp} {a b kd n : Nat} {x : Nat × Nat} (h : hS μ b = some x) (hn : hS μ a = none) : hS (wN μ a kd n) b = some x := by
  have : b ≠ a := fun e => by subst e; rw [hn] at h; cases h
  exact (va_up_ne _ _ this).trans h
theorem hR_wN_o {μ : Hp} {a b kd n q : Nat} {x : Nat × Nat} {y : Option Nat} (h : hS μ b = some x) (hn : hS μ a = none) (hr : hR μ b q = y) : hR (wN μ a kd n) b q = y := by
  have : b ≠ a := fun e => by subst e; rw [hn] at h; cases h
  have e : hR (wN μ a kd n) b = hR μ b := va_up_ne _ _ this
  rw [e]
  exact hr
theorem hS_wN (μ : Hp) (q kd N : Nat) : hS (wN μ q kd N) q = some (kd, N) := va_up_self _ _ _
theorem xnone {μ : Hp} {L : List Nat} {q : Nat} (hL1 : ∀ a x, hS μ a = some x → a ∈ L) (hq : q ∉ L) : hS μ q = none := by
  cases h : hS μ q with
  | none => rfl
  | some x => exact absurd (hL1 q x h) hq
theorem w_arrI : Cond.arrayClass FieldType.int ∈ gtbl := (tb_1 67 (by decide +kernel) rfl)
set_option maxHeartbeats 1000000 in
theorem r_newI {own : String} {cc : ByteArray} {nL d mc ms : Nat} {yn : String} {ro : Nat → Nat} {J : JT} (g : xCtx own cc nL d mc ms yn ro J) {μ : Hp} {k n pc : Nat} {lv : List (Nat × Value)} {st : List Value} {x : Int32} (N : Nat) (hx0 : ¬ x < 0) (hN : x.toNatClampNeg = N) (hN1 : N ≤ 20000) (hk : k + 1 ≤ mc) (hns : n + N ≤ ms) (hdg : decode cc pc = .ok (.newarray .int, 2)) (kk : ∀ a, hS μ a = none → J (wN μ a 0 N) (k + 1) (n + N) (pc + 2) lv (.ref a :: st)) : J μ k n pc lv (.int x :: st) := by
  obtain ⟨p, l, e, R, s, m, args, below, meth, c, D, cA, A0, Q, rfl, ⟨hx, hb, hml, hown, hts⟩, hK, hA, ⟨hRO, hNw⟩, hroom, hyn⟩ := g
  obtain ⟨hR1, hR2, hR3, hR4⟩ := hroom
  intro L H locs ls ⟨hP, hD, hL1, hS1⟩ hl
  have hby : N * componentBytes FieldType.int ≤ 536870912 := by
    have : componentBytes FieldType.int ≤ 8 := by decide
    exact Nat.le_trans (Nat.mul_le_mul hN1 this) (by decide)
  refine va_newa (atype := .int) hx hb (hts (.arrayClass .int) w_arrI) (ty := .int) rfl hK hP hD hS1 hA (N' := N) (a0 := (N, .inl (fun _ => 0))) (fun _ => rfl) hx0 hN hby (by omega) (by omega) hdg (fun q cA1 H1 hK1 hP1 hD1 hS2 => ?_)
  have hq := xfresh hD1
  have hc : cA1 = cA 0 := by
    have h1 : s.vm.findClass _ = some cA1 := (hK1.2 4 (cA1, .int) rfl).2
    have h2 : s.vm.findClass _ = some (cA 0) := (hK.2 0 (cA 0, .int) rfl).2
    exact Option.some.inj (h1.symm.trans h2)
  subst hc
  have he : cellOf cA (wN μ q 0 N) q = .inl (cA 0, N, .inl (fun _ => 0)) := by
    rw [cell_int (hS_wN μ q 0 N), show hI (wN μ q 0 N) q = fun _ => 0 from va_up_self _ _ _]
  rw [xpush hq he] at hP1 hD1
  exact kk q (xnone hL1 hq) _ H1 locs ls ⟨hP1, hD1, xpushL hL1, hS2⟩ hl
theorem w_arrB : Cond.arrayClass FieldType.byte ∈ gtbl := (tb_1 218 (by decide +kernel) rfl)
set_option maxHeartbeats 1000000 in
theorem r_newB {own : String} {cc : ByteArray} {nL d mc ms : Nat} {yn : String} {ro : Nat → Nat} {J : JT} (g : xCtx own cc nL d mc ms yn ro J) {μ : Hp} {k n pc : Nat} {lv : List (Nat × Value)} {st : List Value} {x : Int32} (N : Nat) (hx0 : ¬ x < 0) (hN : x.toNatClampNeg = N) (hN1 : N ≤ 20000) (hk : k + 1 ≤ mc) (hns : n + N ≤ ms) (hdg : decode cc pc = .ok (.newarray .byte, 2)) (kk : ∀ a, hS μ a = none → J (wN μ a 1 N) (k + 1) (n + N) (pc + 2) lv (.ref a :: st)) : J μ k n pc lv (.int x :: st) := by
  obtain ⟨p, l, e, R, s, m, args, below, meth, c, D, cA, A0, Q, rfl, ⟨hx, hb, hml, hown, hts⟩, hK, hA, ⟨hRO, hNw⟩, hroom, hyn⟩ := g
  obtain ⟨hR1, hR2, hR3, hR4⟩ := hroom
  intro L H locs ls ⟨hP, hD, hL1, hS1⟩ hl
  have hby : N * componentBytes FieldType.byte ≤ 536870912 := by
    have : componentBytes FieldType.byte ≤ 8 := by decide
    exact Nat.le_trans (Nat.mul_le_mul hN1 this) (by decide)
  refine va_newa (atype := .byte) hx hb (hts (.arrayClass .byte) w_arrB) (ty := .byte) rfl hK hP hD hS1 hA (N' := N) (a0 := (N, .inl (fun _ => 0))) (fun _ => rfl) hx0 hN hby (by omega) (by omega) hdg (fun q cA1 H1 hK1 hP1 hD1 hS2 => ?_)
  have hq := xfresh hD1
  have hc : cA1 = cA 1 := by
    have h1 : s.vm.findClass _ = some cA1 := (hK1.2 4 (cA1, .byte) rfl).2
    have h2 : s.vm.findClass _ = some (cA 1) := (hK.2 1 (cA 1, .byte) rfl).2
    exact Option.some.inj (h1.symm.trans h2)
  subst hc
  have he : cellOf cA (wN μ q 1 N) q = .inl (cA 1, N, .inl (fun _ => 0)) := by
    rw [cell_byte (hS_wN μ q 1 N), show hI (wN μ q 1 N) q = fun _ => 0 from va_up_self _ _ _]
  rw [xpush hq he] at hP1 hD1
  exact kk q (xnone hL1 hq) _ H1 locs ls ⟨hP1, hD1, xpushL hL1, hS2⟩ hl
theorem w_arrL : Cond.arrayClass FieldType.long ∈ gtbl := (tb_2 29 (by decide +kernel) rfl)
set_option maxHeartbeats 1000000 in
theorem r_newL {own : String} {cc : ByteArray} {nL d mc ms : Nat} {yn : String} {ro : Nat → Nat} {J : JT} (g : xCtx own cc nL d mc ms yn ro J) {μ : Hp} {k n pc : Nat} {lv : List (Nat × Value)} {st : List Value} {x : Int32} (N : Nat) (hx0 : ¬ x < 0) (hN : x.toNatClampNeg = N) (hN1 : N ≤ 20000) (hk : k + 1 ≤ mc) (hns : n + N ≤ ms) (hdg : decode cc pc = .ok (.newarray .long, 2)) (kk : ∀ a, hS μ a = none → J (wN μ a 2 N) (k + 1) (n + N) (pc + 2) lv (.ref a :: st)) : J μ k n pc lv (.int x :: st) := by
  obtain ⟨p, l, e, R, s, m, args, below, meth, c, D, cA, A0, Q, rfl, ⟨hx, hb, hml, hown, hts⟩, hK, hA, ⟨hRO, hNw⟩, hroom, hyn⟩ := g
  obtain ⟨hR1, hR2, hR3, hR4⟩ := hroom
  intro L H locs ls ⟨hP, hD, hL1, hS1⟩ hl
  have hby : N * componentBytes FieldType.long ≤ 536870912 := by
    have : componentBytes FieldType.long ≤ 8 := by decide
    exact Nat.le_trans (Nat.mul_le_mul hN1 this) (by decide)
  refine va_newa (atype := .long) hx hb (hts (.arrayClass .long) w_arrL) (ty := .long) rfl hK hP hD hS1 hA (N' := N) (a0 := (N, .inr (.inl (fun _ => 0)))) (fun _ => rfl) hx0 hN hby (by omega) (by omega) hdg (fun q cA1 H1 hK1 hP1 hD1 hS2 => ?_)
  have hq := xfresh hD1
  have hc : cA1 = cA 2 := by
    have h1 : s.vm.findClass _ = some cA1 := (hK1.2 4 (cA1, .long) rfl).2
    have h2 : s.vm.findClass _ = some (cA 2) := (hK.2 2 (cA 2, .long) rfl).2
    exact Option.some.inj (h1.symm.trans h2)
  subst hc
  have he : cellOf cA (wN μ q 2 N) q = .inl (cA 2, N, .inr (.inl (fun _ => 0))) := by
    rw [cell_long (hS_wN μ q 2 N), show hL (wN μ q 2 N) q = fun _ => 0 from va_up_self _ _ _]
  rw [xpush hq he] at hP1 hD1
  exact kk q (xnone hL1 hq) _ H1 locs ls ⟨hP1, hD1, xpushL hL1, hS2⟩ hl
/-- the site of a new: class own, entry idx, makes an object of the ci-th class -/
def xNew (own : String) (idx ci N : Nat) : Prop := ∃ (C : String) (T : u_T) (ty : Nat → FieldType), vwCl[ci]? = some (C, T, N) ∧ (∀ w ∈ u_ws C T N, w ∈ gtbl) ∧ (∀ k, k < N → parseFieldDescriptor (T k).2.2.1 = some (ty k)) ∧ Cond.classLink own idx C ∈ gtbl ∧ Cond.instantiable C N ∈ gtbl ∧ Cond.initialized C ∈ gtbl ∧ ∀ j, j < N → defaultValue (ty j) = dflt (fk ci j)
set_option maxHeartbeats 1000000 in
theorem r_new {own : String} {cc : ByteArray} {nL d mc ms : Nat} {yn : String} {ro : Nat → Nat} {J : JT} (g : xCtx own cc nL d mc ms yn ro J) {μ : Hp} {k n pc : Nat} {lv : List (Nat × Value)} {st : List Value} {idx ci N : Nat} (hsite : xNew own idx ci N) (hk : k + 1 ≤ mc) (hns : n + N ≤ ms) (hdg : decode cc pc = .ok (.new idx, 3)) (kk : ∀ a, hS μ a = none → J (wN μ a (ci + 4) N) (k + 1) (n + N) (pc + 3) lv (.ref a :: st)) : J μ k n pc lv st := by
  obtain ⟨p, l, e, R, s, m, args, below, meth, c, D, cA, A0, Q, rfl, ⟨hx, hb, hml, hown, hts⟩, hK, hA, ⟨hRO, hNw⟩, hroom, hyn⟩ := g
  obtain ⟨hR1, hR2, hR3, hR4⟩ := hroom
  obtain ⟨C, T, ty, hc, hin, hty, hcl, hinst, hini, hdf⟩ := hsite
  intro L H locs ls ⟨hP, hD, hL1, hS1⟩ hl
  refine va_new (fs := (List.range N).map (fun j => dflt (fk ci j))) hx hb hts hin ty hty hown (hts _ hcl) (hts _ hinst) (hts _ hini) hK hP hD hS1 hA hc (fun j hj => by rw [hdf j hj]; simp [vp_V, hj]) (by omega) (by omega) hdg (fun q H1 hP1 hD1 hS2 => ?_)
  have hq := xfresh hD1
  have he : cellOf cA (wN μ q (ci + 4) N) q = .inr (ci, (List.range N).map (fun j => dflt (fk ci j))) := by
    rw [cell_obj (hS_wN μ q (ci + 4) N)]
    congr 2
    apply List.map_congr_left
    intro j _
    exact fval_new
  rw [xpush hq he] at hP1 hD1
  exact kk q (xnone hL1 hq) _ H1 locs ls ⟨hP1, hD1, xpushL hL1, hS2⟩ hl
theorem w_oiI : Cond.instanceMethod Lib.objectInit ∈ gtbl := (tb_1 37 (by decide +kernel) rfl)
theorem w_oiC : Cond.code Lib.objectInit ⟨#[0xb1]⟩ 1 none ∈ gtbl := (tb_1 38 (by decide +kernel) rfl)
set_option maxHeartbeats 1000000 in
theorem r_objInit {own : String} {cc : ByteArray} {nL d mc ms : Nat} {yn : String} {ro : Nat → Nat} {J : JT} (g : xCtx own cc nL d mc ms yn ro J) {μ : Hp} {k n pc : Nat} {lv : List (Nat × Value)} {st : List Value} {idx a : Nat} (hlk : Cond.methodLink own idx Lib.objectInit ∈ gtbl) (hd : 1 ≤ d) (hw : (st.map fun v => v.category).sum ≤ 8) (hdg : decode cc pc = .ok (.invokespecial idx, 3)) (kk : J μ k n (pc + 3) lv st) : J μ k n pc lv (.ref a :: st) := by
  obtain ⟨p, l, e, R, s, m, args, below, meth, c, D, cA, A0, Q, rfl, ⟨hx, hb, hml, hown, hts⟩, hK, hA, ⟨hRO, hNw⟩, hroom, hyn⟩ := g
  obtain ⟨hR1, hR2, hR3, hR4⟩ := hroom
  intro L H locs ls ⟨hP, hD, hL1, hS1⟩ hl
  have hw2 := lv_room (m := m) (pc := pc) (ls := ls) (rest := .ref a :: st) hw
  exact W.objInit hx hb hown (hts _ hlk) (hts _ w_oiI) (hts _ w_oiC) rfl (hl.1.trans hml.symm) rfl hdg (by omega) (by omega) (kk L H locs ls ⟨hP, hD, hL1, hS1⟩ hl)
set_option maxHeartbeats 1000000 in
theorem r_callI {own : String} {cc : ByteArray} {nL d mc ms : Nat} {yn : String} {ro : Nat → Nat} {J : JT} (g : xCtx own cc nL d mc ms yn ro J) {μ : Hp} {k n pc : Nat} {lv : List (Nat × Value)} {st : List Value} {idx maxL mc' ms' d' nA b : Nat} {y : MethodName} {bytes : ByteArray} {As : List Value} {Z : Option Value → Hp → Prop} (hsite : xSite own idx y bytes maxL none nA) (hyn9 : y.name = "<init>") (hinst : Cond.instanceMethod y ∈ gtbl) (hn : As.length = nA) (hW : (st.map fun v => v.category).sum ≤ 8) (hdg : decode cc pc = .ok (.invokespecial idx, 3)) (hd : d' + 1 ≤ d) (hk : k + mc' ≤ mc) (hns : n + ms' ≤ ms) (hc : xC d' y bytes maxL none mc' ms' (.ref b :: As) μ ro Z) (kk : ∀ (r : Option Value) (μ' : Hp), Z r μ' → J μ' (k + mc') (n + ms') (pc + 3) lv (r.toList ++ st)) : J μ k n pc lv (As.reverse ++ .ref b :: st) := by
  obtain ⟨p, l, e, R, s, m, args, below, meth, c, D, cA, A0, Q, rfl, ⟨hx, hb, hml, hown, hts⟩, hK, hA, ⟨hRO, hNw⟩, hroom, hyn⟩ := g
  obtain ⟨hR1, hR2, hR3, hR4⟩ := hroom
  obtain ⟨hlk, hini, hcode, hy, hmx⟩ := hsite
  intro L H locs ls ⟨hP, hD, hL1, hS1⟩ hl
  have hM := hc l D cA L H.size
  exact xgo (Z := Z) (a := #[]) (va_runI (As := As) (rest := st) ⟨hx, hb, hml, hown, hts⟩ hM ⟨callB_of nA hts (gtbl_goodC hcode) rfl rfl rfl (hts _ hini) (hts _ hlk) hy ⟨by show d' + 1 ≤ R.frames; omega, by show 8 + (maxL + 11) + 64 * d' ≤ R.locals; omega⟩, hyn9, hts _ hinst⟩ ⟨xblind, fun U hU hW9 => ⟨rfl, xpre hP hD hL1 hS1 hK hA hRO hNw hU hW9⟩⟩ rfl hn hl.1 rfl (lv_room hW) hdg ⟨by omega, by omega⟩) hD hS1 hA hl kk
set_option maxHeartbeats 1000000 in
theorem r_callIN {own : String} {cc : ByteArray} {nL d mc ms : Nat} {yn : String} {ro : Nat → Nat} {J : JT} (g : xCtx own cc nL d mc ms yn ro J) {μ : Hp} {k n pc : Nat} {lv : List (Nat × Value)} {st : List Value} {idx maxL mc' ms' d' nA b : Nat} {y : MethodName} {bytes : ByteArray} {As : List Value} {Z : Option Value → Hp → Prop} (hsite : xSiteN own idx y bytes maxL none nA) (hyn9 : y.name = "<init>") (hinst : Cond.instanceMethod y ∈ gtbl) (hn : As.length = nA) (hW : (st.map fun v => v.category).sum ≤ 8) (hdg : decode cc pc = .ok (.invokespecial idx, 3)) (hd : d' + 1 ≤ d) (hk : k + mc' ≤ mc) (hns : n + ms' ≤ ms) (hc : xC d' y bytes maxL none mc' ms' (.ref b :: As) μ ro Z) (kk : ∀ (r : Option Value) (μ' : Hp), Z r μ' → J μ' (k + mc') (n + ms') (pc + 3) lv (r.toList ++ st)) : J μ k n pc lv (As.reverse ++ .ref b :: st) := by
  obtain ⟨p, l, e, R, s, m, args, below, meth, c, D, cA, A0, Q, rfl, ⟨hx, hb, hml, hown, hts⟩, hK, hA, ⟨hRO, hNw⟩, hroom, hyn⟩ := g
  obtain ⟨hR1, hR2, hR3, hR4⟩ := hroom
  obtain ⟨hlk, hini, hcode, hy, hmx⟩ := hsite
  intro L H locs ls ⟨hP, hD, hL1, hS1⟩ hl
  have hM := hc l D cA L H.size
  obtain ⟨host, hlk⟩ := hlk
  exact xgo (Z := Z) (a := #[]) (va_runIN (host := host) (As := As) (rest := st) ⟨hx, hb, hml, hown, hts⟩ hM ⟨va_cnB nA hts (gtbl_goodC hcode) rfl rfl rfl (hNw.1 _ hlk) (hts _ hini) hy ⟨by show d' + 1 ≤ R.frames; omega, by show 8 + (maxL + 11) + 64 * d' ≤ R.locals; omega⟩, hyn9, hts _ hinst⟩ ⟨xblind, fun U hU hW9 => ⟨rfl, xpre hP hD hL1 hS1 hK hA hRO hNw hU hW9⟩⟩ rfl hn hl.1 rfl (lv_room hW) hdg ⟨by omega, by omega⟩) hD hS1 hA hl kk
theorem scrCell {cA : Nat → ClassId} {μ : Hp} {a k N : Nat} {x : Option Nat} (hs : hS μ a = some (3, N)) : cellOf cA (wR μ a k x) a = .inl (cA 3, N, .inr (.inr (.inr (.inr (va_up (hR μ a) k x))))) := by
  rw [cell_scr (show hS (wR μ a k x) a = _ from hs), hR_wR_s]
set_option maxHeartbeats 1000000 in
theorem r_anew {own : String} {cc : ByteArray} {nL d mc ms : Nat} {yn : String} {ro : Nat → Nat} {J : JT} (g : xCtx own cc nL d mc ms yn ro J) {μ : Hp} {k n pc : Nat} {lv : List (Nat × Value)} {st : List Value} {x : Int32} {idx : Nat} (N : Nat) (hlk : Cond.classLink own idx "TreatyRouter$Script" ∈ gtbl) (hx0 : ¬ x < 0) (hN : x.toNatClampNeg = N) (hN1 : N ≤ 20000) (hk : k + 1 ≤ mc) (hns : n + N ≤ ms) (hdg : decode cc pc = .ok (.anewarray idx, 3)) (kk : ∀ a, hS μ a = none → J (wN μ a 3 N) (k + 1) (n + N) (pc + 3) lv (.ref a :: st)) : J μ k n pc lv (.int x :: st) := by
  obtain ⟨p, l, e, R, s, m, args, below, meth, c, D, cA, A0, Q, rfl, ⟨hx, hb, hml, hown, hts⟩, hK, hA, ⟨hRO, hNw⟩, hroom, hyn⟩ := g
  obtain ⟨hR1, hR2, hR3, hR4⟩ := hroom
  intro L H locs ls ⟨hP, hD, hL1, hS1⟩ hl
  refine va_newq hx hb hown (hts _ hlk) hNw.2.2.2 hK hP hD hS1 hA hx0 hN (by omega) (by omega) (by omega) hdg (fun q cA1 H1 hK1 hP1 hD1 hS2 => ?_)
  have hq := xfresh hD1
  have hc : cA1 = cA 3 := by
    obtain ⟨_, _, -, -, -, h1⟩ := (hK1.2 4 (cA1, .object "TreatyRouter$Script") rfl).2
    obtain ⟨_, _, -, -, -, h2⟩ := (hK.2 3 (cA 3, .object "TreatyRouter$Script") rfl).2
    exact Option.some.inj (h1.symm.trans h2)
  subst hc
  have he : cellOf cA (wN μ q 3 N) q = .inl (cA 3, N, .inr (.inr (.inr (.inr (fun _ => none))))) := by
    rw [cell_scr (hS_wN μ q 3 N), show hR (wN μ q 3 N) q = fun _ => none from va_up_self _ _ _]
  rw [xpush hq he] at hP1 hD1
  exact kk q (xnone hL1 hq) _ H1 locs ls ⟨hP1, hD1, xpushL hL1, hS2⟩ hl
set_option maxHeartbeats 1000000 in
theorem r_aastore {own : String} {cc : ByteArray} {nL d mc ms : Nat} {yn : String} {ro : Nat → Nat} {J : JT} (g : xCtx own cc nL d mc ms yn ro J) {μ : Hp} {k n pc : Nat} {lv : List (Nat × Value)} {st : List Value} {a N b : Nat} {i : Int32} (hs : hS μ a = some (3, N)) (hi : vp_in i N) (hb9 : hS μ b = some (11, 2)) (hdg : decode cc pc = .ok (.aastore, 1)) (kk : J (wR μ a i.toNatClampNeg (some b)) k n (pc + 1) lv st) : J μ k n pc lv (.ref b :: .int i :: .ref a :: st) := by
  obtain ⟨p, l, e, R, s, m, args, below, meth, c, D, cA, A0, Q, rfl, ⟨hx, hb, hml, hown, hts⟩, hK, hA, ⟨hRO, hNw⟩, hroom, hyn⟩ := g
  intro L H locs ls ⟨hP, hD, hL1, hS1⟩ hl
  obtain ⟨j, hj⟩ := xget (cA := cA) (hL1 a _ hs)
  obtain ⟨j1, hj1⟩ := xget (cA := cA) (hL1 b _ hb9)
  have hj0 := hj
  rw [cell_scr hs] at hj
  rw [cell_obj (k := 7) hb9] at hj1
  refine va_astq hx hb hK hP hD hS1 j 3 j1 7 hj rfl hj1 rfl hi hdg (fun H1 locs1 hP1 hD1 hS2 => ?_)
  rw [xset hD (hL1 a _ hs) hj0 (cell_up wR_ne (scrCell hs))] at hP1 hD1
  exact kk L H1 locs1 ls ⟨hP1, hD1, hL1, hS2⟩ hl
/-- a call that may make cells -/
def xCallA (d mc ms k n : Nat) (y : MethodName) (bytes : ByteArray) (maxL : Nat) (rt : Option FieldType) (As : List Value) (μ : Hp) (ro : Nat → Nat) (K : Option Value → Hp → Nat → Nat → Prop) : Prop :=
  ∃ (d' mc' ms' : Nat) (Z : Option Value → Hp → Prop), xC d' y bytes maxL rt mc' ms' As μ ro Z ∧ d' + 1 ≤ d ∧ k + mc' ≤ mc ∧ n + ms' ≤ ms ∧ ∀ (r : Option Value) (μ' : Hp), Z r μ' → K r μ' (k + mc') (n + ms')
