/-- a Word or null -/
def wV (ro : Nat → Nat) (w : Option Nat) : Value := match w with
  | none => .null
  | some i => .ref (ro (10 + i))
theorem vp_lt {i : Int32} {n : Nat} (h : vp_in i n) : i.toNatClampNeg < n := Nat.not_le.mp fun q => h (Or.inr q)
theorem r_nmV {J : JT} {μ : Hp} {k n pc : Nat} {lv : List (Nat × Value)} {st : List Value} {x : Value} (v : Value) (hv : v = x) (kk : J μ k n pc lv (v :: st)) : J μ k n pc lv (x :: st) := hv ▸ kk
theorem roO_w {i : Nat} (h : i < 12) : ("TreatyRouter$Word", 10 + i) ∈ roO := List.mem_cons_of_mem _ (List.mem_cons_of_mem _ (List.mem_map.mpr ⟨i, List.mem_range.mpr h, rfl⟩))
theorem roF_code {i : Nat} (h : i < 12) : ("TreatyRouter$Word", "code", "J", ((fun _ => .long (roCode.getD i 0)) : (Nat → Nat) → Value), 10 + i) ∈ roF := by
  refine List.mem_cons_of_mem _ (List.mem_cons_of_mem _ (List.mem_cons_of_mem _ (List.mem_cons_of_mem _ (List.mem_append_left _ ?_))))
  exact List.mem_map.mpr ⟨i, List.mem_range.mpr h, rfl⟩
theorem roF_act {i : Nat} (h : i < 12) : ("TreatyRouter$Word", "act", "I", ((fun _ => .int (roAct.getD i 0)) : (Nat → Nat) → Value), 10 + i) ∈ roF := by
  refine List.mem_cons_of_mem _ (List.mem_cons_of_mem _ (List.mem_cons_of_mem _ (List.mem_cons_of_mem _ (List.mem_append_right _ (List.mem_append_left _ ?_)))))
  exact List.mem_map.mpr ⟨i, List.mem_range.mpr h, rfl⟩
theorem roF_numbers {i : Nat} (h : i < 12) : ("TreatyRouter$Word", "numbers", "I", ((fun _ => .int (roNum.getD i 0)) : (Nat → Nat) → Value), 10 + i) ∈ roF := by
  refine List.mem_cons_of_mem _ (List.mem_cons_of_mem _ (List.mem_cons_of_mem _ (List.mem_cons_of_mem _ (List.mem_append_right _ (List.mem_append_right _ (List.mem_append_left _ ?_))))))
  exact List.mem_map.mpr ⟨i, List.mem_range.mpr h, rfl⟩
theorem roF_ordinal {i : Nat} (h : i < 12) : ("java/lang/Enum", "ordinal", "I", ((fun _ => .int (Int32.ofNat i)) : (Nat → Nat) → Value), 10 + i) ∈ roF := by
  refine List.mem_cons_of_mem _ (List.mem_cons_of_mem _ (List.mem_cons_of_mem _ (List.mem_cons_of_mem _ (List.mem_append_right _ (List.mem_append_right _ (List.mem_append_right _ ?_))))))
  exact List.mem_map.mpr ⟨i, List.mem_range.mpr h, rfl⟩
set_option maxHeartbeats 1000000 in
theorem r_getsRO {own : String} {cc : ByteArray} {nL d mc ms : Nat} {yn : String} {ro : Nat → Nat} {J : JT} (g : xCtx own cc nL d mc ms yn ro J) {μ : Hp} {k n pc : Nat} {lv : List (Nat × Value)} {st : List Value} {C nm de : String} {fv : (Nat → Nat) → Value} {idx : Nat} (hz : (C, nm, de, fv) ∈ roZ) (hlk : Cond.fieldLink own idx C nm de ∈ gtbl) (hdg : decode cc pc = .ok (.getstatic idx, 3)) (kk : J μ k n (pc + 3) lv (fv ro :: st)) : J μ k n pc lv st := by
  obtain ⟨p, l, e, R, s, m, args, below, meth, c, D, cA, A0, Q, rfl, ⟨hx, hb, hml, hown, hts⟩, hK, hA, ⟨hRO, hNw⟩, hroom, hyn⟩ := g
  intro L H locs ls ⟨hP, hD, hL1, hS1⟩ hl
  exact va_gets hx hb (hRO.1 _ hz) hS1 hown (hts _ hlk) (fun _ h => h) hdg (kk L H locs ls ⟨hP, hD, hL1, hS1⟩ hl)
set_option maxHeartbeats 1000000 in
theorem r_getsWords {own : String} {cc : ByteArray} {nL d mc ms : Nat} {yn : String} {ro : Nat → Nat} {J : JT} (g : xCtx own cc nL d mc ms yn ro J) {μ : Hp} {k n pc : Nat} {lv : List (Nat × Value)} {st : List Value} (hown9 : own = "TreatyRouter$Word") (hdg : decode cc pc = .ok (.getstatic 88, 3)) (kk : J μ k n (pc + 3) lv (.ref (ro 0) :: st)) : J μ k n pc lv st := by
  obtain ⟨p, l, e, R, s, m, args, below, meth, c, D, cA, A0, Q, rfl, ⟨hx, hb, hml, hown, hts⟩, hK, hA, ⟨hRO, hNw⟩, hroom, hyn⟩ := g
  intro L H locs ls ⟨hP, hD, hL1, hS1⟩ hl
  subst hown9
  exact va_getsN hx hb (hRO.1 ("TreatyRouter", "WORDS", "[LTreatyRouter$Word;", fun ro => .ref (ro 0)) (List.mem_of_getElem? (i := 0) rfl)) hS1 hown (va_Nw.use rfl hNw.2.1) (fun _ h => h) hdg (kk L H locs ls ⟨hP, hD, hL1, hS1⟩ hl)
set_option maxHeartbeats 1000000 in
theorem r_tabI {own : String} {cc : ByteArray} {nL d mc ms : Nat} {yn : String} {ro : Nat → Nat} {J : JT} (g : xCtx own cc nL d mc ms yn ro J) {μ : Hp} {k n pc : Nat} {lv : List (Nat × Value)} {st : List Value} {j N : Nat} {f : (Nat → Nat) → Nat → Value} {i : Int32} (ht : (FieldType.int, j, N, f) ∈ roT) (hi : vp_in i N) (hdg : decode cc pc = .ok (.iaload, 1)) (kk : J μ k n (pc + 1) lv (f ro i.toNatClampNeg :: st)) : J μ k n pc lv (.int i :: .ref (ro j) :: st) := by
  obtain ⟨p, l, e, R, s, m, args, below, meth, c, D, cA, A0, Q, rfl, ⟨hx, hb, hml, hown, hts⟩, hK, hA, ⟨hRO, hNw⟩, hroom, hyn⟩ := g
  intro L H locs ls ⟨hP, hD, hL1, hS1⟩ hl
  exact va_ti hx hb (hRO.2.1 _ ht) hS1 hi rfl hdg (kk L H locs ls ⟨hP, hD, hL1, hS1⟩ hl)
set_option maxHeartbeats 1000000 in
theorem r_tabB {own : String} {cc : ByteArray} {nL d mc ms : Nat} {yn : String} {ro : Nat → Nat} {J : JT} (g : xCtx own cc nL d mc ms yn ro J) {μ : Hp} {k n pc : Nat} {lv : List (Nat × Value)} {st : List Value} {j N : Nat} {f : (Nat → Nat) → Nat → Value} {i : Int32} (ht : (FieldType.byte, j, N, f) ∈ roT) (hi : vp_in i N) (hdg : decode cc pc = .ok (.baload, 1)) (kk : J μ k n (pc + 1) lv (f ro i.toNatClampNeg :: st)) : J μ k n pc lv (.int i :: .ref (ro j) :: st) := by
  obtain ⟨p, l, e, R, s, m, args, below, meth, c, D, cA, A0, Q, rfl, ⟨hx, hb, hml, hown, hts⟩, hK, hA, ⟨hRO, hNw⟩, hroom, hyn⟩ := g
  intro L H locs ls ⟨hP, hD, hL1, hS1⟩ hl
  exact va_tb hx hb (hRO.2.1 _ ht) hS1 hi rfl hdg (kk L H locs ls ⟨hP, hD, hL1, hS1⟩ hl)
set_option maxHeartbeats 1000000 in
theorem r_tabR {own : String} {cc : ByteArray} {nL d mc ms : Nat} {yn : String} {ro : Nat → Nat} {J : JT} (g : xCtx own cc nL d mc ms yn ro J) {μ : Hp} {k n pc : Nat} {lv : List (Nat × Value)} {st : List Value} {j N : Nat} {C : String} {f : (Nat → Nat) → Nat → Value} {i : Int32} (ht : (FieldType.object C, j, N, f) ∈ roT) (hi : vp_in i N) (hdg : decode cc pc = .ok (.aaload, 1)) (kk : J μ k n (pc + 1) lv (f ro i.toNatClampNeg :: st)) : J μ k n pc lv (.int i :: .ref (ro j) :: st) := by
  obtain ⟨p, l, e, R, s, m, args, below, meth, c, D, cA, A0, Q, rfl, ⟨hx, hb, hml, hown, hts⟩, hK, hA, ⟨hRO, hNw⟩, hroom, hyn⟩ := g
  intro L H locs ls ⟨hP, hD, hL1, hS1⟩ hl
  exact vb_tq hx hb (hRO.2.1 _ ht) hS1 hi rfl hdg (kk L H locs ls ⟨hP, hD, hL1, hS1⟩ hl)
set_option maxHeartbeats 1000000 in
theorem r_tabLen {own : String} {cc : ByteArray} {nL d mc ms : Nat} {yn : String} {ro : Nat → Nat} {J : JT} (g : xCtx own cc nL d mc ms yn ro J) {μ : Hp} {k n pc : Nat} {lv : List (Nat × Value)} {st : List Value} {ty : FieldType} {j N : Nat} {f : (Nat → Nat) → Nat → Value} (ht : (ty, j, N, f) ∈ roT) (hdg : decode cc pc = .ok (.arraylength, 1)) (kk : J μ k n (pc + 1) lv (.int (Int32.ofNat N) :: st)) : J μ k n pc lv (.ref (ro j) :: st) := by
  obtain ⟨p, l, e, R, s, m, args, below, meth, c, D, cA, A0, Q, rfl, ⟨hx, hb, hml, hown, hts⟩, hK, hA, ⟨hRO, hNw⟩, hroom, hyn⟩ := g
  intro L H locs ls ⟨hP, hD, hL1, hS1⟩ hl
  exact va_tlen hx hb (hRO.2.1 _ ht) hS1 rfl hdg (kk L H locs ls ⟨hP, hD, hL1, hS1⟩ hl)
set_option maxHeartbeats 1000000 in
theorem r_fldRO {own : String} {cc : ByteArray} {nL d mc ms : Nat} {yn : String} {ro : Nat → Nat} {J : JT} (g : xCtx own cc nL d mc ms yn ro J) {μ : Hp} {k n pc : Nat} {lv : List (Nat × Value)} {st : List Value} {o nm de : String} {fv : (Nat → Nat) → Value} {j idx : Nat} (hf : (o, nm, de, fv, j) ∈ roF) (hlk : Cond.fieldLink own idx o nm de ∈ gtbl) (hdg : decode cc pc = .ok (.getfield idx, 3)) (kk : J μ k n (pc + 3) lv (fv ro :: st)) : J μ k n pc lv (.ref (ro j) :: st) := by
  obtain ⟨p, l, e, R, s, m, args, below, meth, c, D, cA, A0, Q, rfl, ⟨hx, hb, hml, hown, hts⟩, hK, hA, ⟨hRO, hNw⟩, hroom, hyn⟩ := g
  intro L H locs ls ⟨hP, hD, hL1, hS1⟩ hl
  obtain ⟨cf, k9, fi, f, cell, h1, h2, h3, h4, h5, h6⟩ := (hRO.2.2.2 _ hf).kept hS1.2.1
  exact W.getf hx hb hown (hts _ hlk) h1 h2 h3 h4 (v := fv ro) h5 rfl rfl hdg (kk L H locs ls ⟨hP, hD, hL1, hS1⟩ hl)
set_option maxHeartbeats 1000000 in
theorem r_ldcS {own : String} {cc : ByteArray} {nL d mc ms : Nat} {yn : String} {ro : Nat → Nat} {J : JT} (g : xCtx own cc nL d mc ms yn ro J) {μ : Hp} {k n pc : Nat} {lv : List (Nat × Value)} {st : List Value} {tx : String} {idx j : Nat} (hs : (own, idx, tx, j) ∈ roS) (hdg : decode cc pc = .ok (.ldc idx, 2)) (kk : J μ k n (pc + 2) lv (.ref (ro j) :: st)) : J μ k n pc lv st := by
  obtain ⟨p, l, e, R, s, m, args, below, meth, c, D, cA, A0, Q, rfl, ⟨hx, hb, hml, hown, hts⟩, hK, hA, ⟨hRO, hNw⟩, hroom, hyn⟩ := g
  intro L H locs ls ⟨hP, hD, hL1, hS1⟩ hl
  exact va_ldcS hx hb hown (hNw.2.2.1 _ hs) hdg (kk L H locs ls ⟨hP, hD, hL1, hS1⟩ hl)
set_option maxHeartbeats 1000000 in
theorem r_callUR {own : String} {cc : ByteArray} {nL d mc ms : Nat} {yn : String} {ro : Nat → Nat} {J : JT} (g : xCtx own cc nL d mc ms yn ro J) {μ : Hp} {k n pc : Nat} {lv : List (Nat × Value)} {st : List Value} {idx maxL mc' ms' d' nA : Nat} {C : String} {x y : MethodName} {bytes : ByteArray} {rt : Option FieldType} {As : List Value} {Z : Option Value → Hp → Prop} (hsite : xSiteU own idx C x y bytes maxL rt nA) {j : Nat} (ho : (C, j) ∈ roO) (hn : As.length = nA) (hW : (st.map fun v => v.category).sum ≤ 8) (hdg : decode cc pc = .ok (.invokevirtual idx, 3)) (hd : d' + 1 ≤ d) (hk : k + mc' ≤ mc) (hns : n + ms' ≤ ms) (hc : xC d' y bytes maxL rt mc' ms' (.ref (ro j) :: As) μ ro Z) (kk : ∀ (r : Option Value) (μ' : Hp), Z r μ' → J μ' (k + mc') (n + ms') (pc + 3) lv (r.toList ++ st)) : J μ k n pc lv (As.reverse ++ .ref (ro j) :: st) := by
  obtain ⟨p, l, e, R, s, m, args, below, meth, c, D, cA, A0, Q, rfl, ⟨hx, hb, hml, hown, hts⟩, hK, hA, ⟨hRO, hNw⟩, hroom, hyn⟩ := g
  obtain ⟨hR1, hR2, hR3, hR4⟩ := hroom
  obtain ⟨hlk, hsm, hsel, hins, hini, hcode, hyx, hy, hmx⟩ := hsite
  intro L H locs ls ⟨hP, hD, hL1, hS1⟩ hl
  have hM := hc l D cA L H.size
  have hrcv : ∃ cell : Cell, H[ro j]? = some cell ∧ cell.vm.isStatics = false ∧ s.vm.findClass C = some cell.cls := by
    obtain ⟨cell, h1, h2, h3, -⟩ := (hRO.2.2.1 _ ho).kept hS1.2.1
    exact ⟨cell, h1, h2, h3⟩
  have hG : GoodIn gtbl (va_wsU own idx C y.cls x y (Cond.code y bytes maxL rt :: gtbl)) := by
    intro w hw
    rcases List.mem_append.mp hw with h | h
    · simp only [List.mem_cons, List.not_mem_nil, or_false] at h
      rcases h with h | h | h | h | h
      · rw [h]; exact gtbl_good _ hlk
      · rw [h]; exact gtbl_good _ hsm
      · rw [h]; exact gtbl_good _ hsel
      · rw [h]; exact gtbl_good _ hins
      · rw [h]; exact gtbl_good _ hini
    · exact gtbl_goodC hcode w h
  exact xgo (Z := Z) (a := #[]) (va_runU (As := As) (rest := st) ⟨hx, hb, hml, hown, hts⟩ hM (va_cwU nA hts hG rfl rfl rfl hyx hy ⟨by show d' + 1 ≤ R.frames; omega, by show 8 + (maxL + 11) + 64 * d' ≤ R.locals; omega⟩) ⟨xblind, hrcv, fun U hU hW9 => ⟨rfl, xpre hP hD hL1 hS1 hK hA hRO hNw hU hW9⟩⟩ rfl hn hl.1 rfl (lv_room hW) hdg ⟨by omega, by omega⟩) hD hS1 hA hl kk
set_option maxHeartbeats 1000000 in
theorem r_callUO {own : String} {cc : ByteArray} {nL d mc ms : Nat} {yn : String} {ro : Nat → Nat} {J : JT} (g : xCtx own cc nL d mc ms yn ro J) {μ : Hp} {k n pc : Nat} {lv : List (Nat × Value)} {st : List Value} {idx maxL mc' ms' d' nA : Nat} {C : String} {x y : MethodName} {bytes : ByteArray} {rt : Option FieldType} {As : List Value} {Z : Option Value → Hp → Prop} (hsite : xSiteU own idx C x y bytes maxL rt nA) {b ci N : Nat} {T : u_T} (hcl : vwCl[ci]? = some (C, T, N)) (hs : hS μ b = some (ci + 4, N)) (hn : As.length = nA) (hW : (st.map fun v => v.category).sum ≤ 8) (hdg : decode cc pc = .ok (.invokevirtual idx, 3)) (hd : d' + 1 ≤ d) (hk : k + mc' ≤ mc) (hns : n + ms' ≤ ms) (hc : xC d' y bytes maxL rt mc' ms' (.ref b :: As) μ ro Z) (kk : ∀ (r : Option Value) (μ' : Hp), Z r μ' → J μ' (k + mc') (n + ms') (pc + 3) lv (r.toList ++ st)) : J μ k n pc lv (As.reverse ++ .ref b :: st) := by
  obtain ⟨p, l, e, R, s, m, args, below, meth, c, D, cA, A0, Q, rfl, ⟨hx, hb, hml, hown, hts⟩, hK, hA, ⟨hRO, hNw⟩, hroom, hyn⟩ := g
  obtain ⟨hR1, hR2, hR3, hR4⟩ := hroom
  obtain ⟨hlk, hsm, hsel, hins, hini, hcode, hyx, hy, hmx⟩ := hsite
  intro L H locs ls ⟨hP, hD, hL1, hS1⟩ hl
  have hM := hc l D cA L H.size
  obtain ⟨j, hj⟩ := xget (cA := cA) (hL1 b _ hs)
  rw [cell_obj hs] at hj
  have hrcv := va_recv hK hP hcl hj
  have hG : GoodIn gtbl (va_wsU own idx C y.cls x y (Cond.code y bytes maxL rt :: gtbl)) := by
    intro w hw
    rcases List.mem_append.mp hw with h | h
    · simp only [List.mem_cons, List.not_mem_nil, or_false] at h
      rcases h with h | h | h | h | h
      · rw [h]; exact gtbl_good _ hlk
      · rw [h]; exact gtbl_good _ hsm
      · rw [h]; exact gtbl_good _ hsel
      · rw [h]; exact gtbl_good _ hins
      · rw [h]; exact gtbl_good _ hini
    · exact gtbl_goodC hcode w h
  exact xgo (Z := Z) (a := #[]) (va_runU (As := As) (rest := st) ⟨hx, hb, hml, hown, hts⟩ hM (va_cwU nA hts hG rfl rfl rfl hyx hy ⟨by show d' + 1 ≤ R.frames; omega, by show 8 + (maxL + 11) + 64 * d' ≤ R.locals; omega⟩) ⟨xblind, hrcv, fun U hU hW9 => ⟨rfl, xpre hP hD hL1 hS1 hK hA hRO hNw hU hW9⟩⟩ rfl hn hl.1 rfl (lv_room hW) hdg ⟨by omega, by omega⟩) hD hS1 hA hl kk
set_option maxHeartbeats 1000000 in
theorem r_callVR {own : String} {cc : ByteArray} {nL d mc ms : Nat} {yn : String} {ro : Nat → Nat} {J : JT} (g : xCtx own cc nL d mc ms yn ro J) {μ : Hp} {k n pc : Nat} {lv : List (Nat × Value)} {st : List Value} {idx maxL mc' ms' d' nA : Nat} {y : MethodName} {bytes : ByteArray} {rt : Option FieldType} {As : List Value} {Z : Option Value → Hp → Prop} (hsite : xSite own idx y bytes maxL rt nA) (hinst : Cond.instanceMethod y ∈ gtbl) (hsel : Cond.selects y.cls y y ∈ gtbl) {j : Nat} (ho : (y.cls, j) ∈ roO) (hn : As.length = nA) (hW : (st.map fun v => v.category).sum ≤ 8) (hdg : decode cc pc = .ok (.invokevirtual idx, 3)) (hd : d' + 1 ≤ d) (hk : k + mc' ≤ mc) (hns : n + ms' ≤ ms) (hc : xC d' y bytes maxL rt mc' ms' (.ref (ro j) :: As) μ ro Z) (kk : ∀ (r : Option Value) (μ' : Hp), Z r μ' → J μ' (k + mc') (n + ms') (pc + 3) lv (r.toList ++ st)) : J μ k n pc lv (As.reverse ++ .ref (ro j) :: st) := by
  obtain ⟨p, l, e, R, s, m, args, below, meth, c, D, cA, A0, Q, rfl, ⟨hx, hb, hml, hown, hts⟩, hK, hA, ⟨hRO, hNw⟩, hroom, hyn⟩ := g
  obtain ⟨hR1, hR2, hR3, hR4⟩ := hroom
  obtain ⟨hlk, hini, hcode, hy, hmx⟩ := hsite
  intro L H locs ls ⟨hP, hD, hL1, hS1⟩ hl
  have hM := hc l D cA L H.size
  have hrcv : ∃ cell : Cell, H[ro j]? = some cell ∧ cell.vm.isStatics = false ∧ s.vm.findClass y.cls = some cell.cls := by
    obtain ⟨cell, h1, h2, h3, -⟩ := (hRO.2.2.1 _ ho).kept hS1.2.1
    exact ⟨cell, h1, h2, h3⟩
  exact xgo (Z := Z) (a := #[]) (va_runV (As := As) (rest := st) ⟨hx, hb, hml, hown, hts⟩ hM ⟨callB_of nA hts (gtbl_goodC hcode) rfl rfl rfl (hts _ hini) (hts _ hlk) hy ⟨by show d' + 1 ≤ R.frames; omega, by show 8 + (maxL + 11) + 64 * d' ≤ R.locals; omega⟩, hts _ hinst, hts _ hsel⟩ ⟨xblind, hrcv, fun U hU hW9 => ⟨rfl, xpre hP hD hL1 hS1 hK hA hRO hNw hU hW9⟩⟩ rfl hn hl.1 rfl (lv_room hW) hdg ⟨by omega, by omega⟩) hD hS1 hA hl kk
