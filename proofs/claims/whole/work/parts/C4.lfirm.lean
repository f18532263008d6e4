/-! the law's own firm -/
theorem dL_firm_0 : decode cL_firm 0 = .ok (.aload_n 3, 1) := by decide +kernel
theorem dL_firm_1 : decode cL_firm 1 = .ok (.iconst 0, 1) := by decide +kernel
theorem dL_firm_2 : decode cL_firm 2 = .ok (.aload_n 0, 1) := by decide +kernel
theorem dL_firm_3 : decode cL_firm 3 = .ok (.iload_n 1, 1) := by decide +kernel
theorem dL_firm_4 : decode cL_firm 4 = .ok (.iload_n 2, 1) := by decide +kernel
theorem dL_firm_5 : decode cL_firm 5 = .ok (.invokevirtual 7, 3) := by decide +kernel
theorem dL_firm_8 : decode cL_firm 8 = .ok (.i2l, 1) := by decide +kernel
theorem dL_firm_9 : decode cL_firm 9 = .ok (.lastore, 1) := by decide +kernel
theorem dL_firm_10 : decode cL_firm 10 = .ok (.goto 7, 3) := by decide +kernel
theorem dL_firm_13 : decode cL_firm 13 = .ok (.astore 4, 2) := by decide +kernel
theorem dL_firm_15 : decode cL_firm 15 = .ok (.iconst 1, 1) := by decide +kernel
theorem dL_firm_16 : decode cL_firm 16 = .ok (.ireturn, 1) := by decide +kernel
theorem dL_firm_17 : decode cL_firm 17 = .ok (.iconst 0, 1) := by decide +kernel
theorem dL_firm_18 : decode cL_firm 18 = .ok (.ireturn, 1) := by decide +kernel
abbrev hhF : List (Nat × Nat × Nat × Nat) := [(0, 10, 13, 13)]
theorem lf_code : Cond.codeWith yL_firm cL_firm 5 (some .int) hhF ∈ gtbl := (tb_5 166 (by decide +kernel) rfl)
theorem lf_link : Cond.methodLink RL 42 yL_firm ∈ gtbl := (tb_5 164 (by decide +kernel) rfl)
theorem lf_stat : Cond.static yL_firm ∈ gtbl := (tb_5 165 (by decide +kernel) rfl)
theorem lf_ini : Cond.initialized RL ∈ gtbl := (tb_1 0 (by decide +kernel) rfl)
theorem lf_cls : Cond.classLink RL 13 nNSE ∈ gtbl := (tb_5 167 (by decide +kernel) rfl)
theorem sL_7 : xSite RL 7 yX11_firm cX11_firm 3 (some .int) 2 := ⟨(tb_5 168 (by decide +kernel) rfl), (tb_1 1 (by decide +kernel) rfl), (tb_5 171 (by decide +kernel) rfl), by decide +kernel, by decide⟩
theorem iX11_firm : Cond.instanceMethod yX11_firm ∈ gtbl := (tb_5 169 (by decide +kernel) rfl)
theorem eX11_firm : Cond.selects yX11_firm.cls yX11_firm yX11_firm ∈ gtbl := (tb_5 170 (by decide +kernel) rfl)
theorem Met_ofWH {l : Launch} {y : MethodName} {ws ws' : List Cond} {rm : Room} {Pc : Array Value → State → Prop} {Qc : Array Value → State → Outcome → State → Prop} {mc ms : Nat} {free : Addr → Prop} {cc : ByteArray} {maxL : Nat} {ret : Option FieldType} {hh : List (Nat × Nat × Nat × Nat)}
    (hy : plainName y.cls = true) (hw : ws = Cond.codeWith y cc maxL ret hh :: ws')
    (body : ∀ p e s m args below meth c s₁, BodyLoose p l y (headSpec ws rm) cc maxL ret e s m args below meth c s₁ → c.maxLocals = maxL → Pc args s →
      W p l e (headSpec ws rm).room s m args below meth c s.heap [] 0 0 (MQ below Qc args s mc ms free) (entryFrame m args maxL)) : Met l y ws rm Pc Qc mc ms free := by
  refine MetFree.of_bodyS (code := cc) (maxLocals := maxL) (ret := ret) hy ?_ ?_
  · intro args s m h hn
    obtain ⟨m9, meth, c, hn9, h1, h2, h3, h4, -, h5, h6, -⟩ := Cond.codeWith_spec (atoms_spec (ws := ws) h _ (by rw [hw]; exact List.mem_cons_self))
    cases hn.symm.trans hn9
    exact ⟨meth, c, h1, h2, h3, h4, h5, h6⟩
  · intro p e s m args below meth c s₁ B hml hP _
    have hh0 : s₁.heap = s.heap := by rw [B.state]; rfl
    obtain ⟨t, a1, o, b1, b2, b3⟩ := body p e s m args below meth c s₁ B hml hP s₁ hh0 (Stand.of_body B)
    exact ⟨t, o, a1, b1, b2, ⟨b3.1, b3.2⟩⟩
/-- what the law's firm answers and writes -/
def lfZ (B : Bk) (f : Nat → Int32) (v y : Int32) (w : Nat) (μ : Hp) (r : Option Value) (μ' : Hp) : Prop := (firmOk B v y ∧ r = some (.int 0) ∧ μ' = wL μ w 0 (aFirm B f v y).toInt64) ∨ (¬ firmOk B v y ∧ r = some (.int 1) ∧ μ' = μ)
abbrev lfQ (D : va_G) (cA : Nat → ClassId) (μ : Hp) (L : List Nat) (sz : Nat) (Z : Option Value → Hp → Prop) : Array Value → State → Outcome → State → Prop := fun _ st o t => (∃ (r : Option Value) (μ' : Hp) (L' : List Nat), o = .returned r ∧ Z r μ' ∧ va_P D vwCl (xws cA μ' L') t.heap ∧ va_D (va_A (xws cA μ L) sz) (xws cA μ' L') ∧ (∀ a x, hS μ' a = some x → a ∈ L')) ∧ va_F (va_A (xws cA μ L) sz) st t
section lf
variable {ro : Nat → Nat} {μ : Hp} {A : Nat → Nat} {B : Bk} {f : Nat → Int32} {v y : Int32} {w : Nat}
set_option maxHeartbeats 4000000 in
set_option maxRecDepth 100000 in
theorem LF_met {l : Launch} (hl : l.stackTraces = false) (D : va_G) (cA : Nat → ClassId) (L : List Nat) (sz : Nat) (h : cQ μ A B f) (hw : hS μ w = some (2, 1)) :
    Met l yL_firm (.codeWith yL_firm cL_firm 5 (some .int) hhF :: gtbl) { frames := 9, cells := 1, slots := 6, locals := 64 * 9 } (va_Pc [.ref (A 0), .int v, .int y, .ref w] (fmP D cA μ L sz ro)) (lfQ D cA μ L sz (lfZ B f v y w μ)) 1 6 (va_A (xws cA μ L) sz) := by
  refine Met_ofWH (cc := cL_firm) (maxL := 5) (ret := some .int) (by decide) rfl ?_
  intro p e s m args below meth c s₁ Bd hml hv
  obtain ⟨rfl, ⟨hsz, hP, hK, hD0, hLd, hRO, hNw⟩, hZ⟩ := hv
  have hx := Bd.exec
  have hb := Bd.bytes
  have hr := Bd.returns
  have hts0 := atoms_spec (ws := .codeWith yL_firm cL_firm 5 (some .int) hhF :: gtbl) Bd.pre
  have hts : ∀ w ∈ gtbl, w.before _ s = true := fun w hw => hts0 w (List.mem_cons_of_mem _ hw)
  have htb : c.exceptionTable.toList = tableOf hhF := vx_table (x := yL_firm) Bd (hts0 _ List.mem_cons_self)
  have hown : s.vm.findClass RL = some m.cls := findClass_of_methodNamed Bd.named
  have hin : meth.name = yL_firm.name := (name_of_methodNamed Bd.named Bd.method).1
  subst hsz
  have hD := hD0.self (sz := s.heap.size)
  have hA : ∀ q : Nat, s.heap.size ≤ q → va_A (xws cA μ L) s.heap.size q := fun q h => Or.inr h
  have hl0 := lv_entry ([.ref (A 0), .int v, .int y, .ref w] : List Value) (n := 5) (Nat.le_of_ble_eq_true rfl)
  rw [lg_entry_eq]
  obtain ⟨J, hJ⟩ : ∃ J : JT, J = xJ p l e (headSpec (.codeWith yL_firm cL_firm 5 (some .int) hhF :: gtbl) { frames := 9, cells := 1, slots := 6, locals := 64 * 9 }).room s m ([.ref (A 0), .int v, .int y, .ref w] : List Value).toArray below meth c D cA (va_A (xws cA μ L) s.heap.size) 5 (MQ below (lfQ D cA μ L s.heap.size (lfZ B f v y w μ)) ([.ref (A 0), .int v, .int y, .ref w] : List Value).toArray s 1 6 (va_A (xws cA μ L) s.heap.size)) := ⟨_, rfl⟩
  have g : xCtx RL cL_firm 5 9 1 6 yL_firm.name ro J :=
    ⟨p, l, e, _, s, m, _, below, meth, c, D, cA, _, _, hJ, ⟨hx, hb, hml, hown, hts⟩, hK, hA, ⟨hRO, hNw⟩, ⟨Nat.le_refl _, Nat.le_refl _, Nat.le_refl _, Nat.le_refl _⟩, hin⟩
  have hend : ∀ (μ1 : Hp) (pc : Nat) (lv : List (Nat × Value)) (r : Int32), decode cL_firm pc = .ok (.ireturn, 1) → lfZ B f v y w μ (some (.int r)) μ1 → J μ1 1 6 pc lv [.int r] := by
    intro μ1 pc lv r hdg hZ1
    rw [hJ]
    intro L1 H locs ls ⟨hP1, hD1, hL1, hS1⟩ _
    exact W.zret hx hb hr rfl (fun t ht hW => ⟨⟨_, μ1, L1, rfl, hZ1, by rw [ht]; exact hP1, hD1, hL1⟩, hS1.F ht⟩) hS1.2.2 hdg
  have hgo : J μ 0 0 0 [(0, .ref (A 0)), (1, .int v), (2, .int y), (3, .ref w)] [] := by
    refine r_aload_n g dL_firm_0 rfl ?_
    refine r_iconst g 0 dL_firm_1 (by decide) ?_
    refine r_aload_n g dL_firm_2 rfl ?_
    refine r_iload_n g dL_firm_3 rfl ?_
    refine r_iload_n g dL_firm_4 rfl ?_
    have k8 : ∀ r : Int32, firmOk B v y → r = aFirm B f v y → J μ 1 6 8 [(0, .ref (A 0)), (1, .int v), (2, .int y), (3, .ref w)] [.int r, .int 0, .ref w] := by
      intro r hok he
      refine r_i2l g dL_firm_8 ?_
      refine r_lastore g hw (lit_in 0 (N := 1) (by decide) (by decide)) dL_firm_9 ?_
      refine r_goto g 17 dL_firm_10 (by decide) ?_
      refine r_iconst g 0 dL_firm_17 (by decide) ?_
      exact hend _ 18 _ _ dL_firm_18 (Or.inl ⟨hok, rfl, by rw [he]; rfl⟩)
    have k13 : ∀ q : Nat, ¬ firmOk B v y → J μ 1 6 13 [(0, .ref (A 0)), (1, .int v), (2, .int y), (3, .ref w)] [.ref q] := by
      intro q hno
      refine r_astore g _ dL_firm_13 (by decide) rfl ?_
      refine r_iconst g 1 dL_firm_15 (by decide) ?_
      exact hend _ 16 _ _ dL_firm_16 (Or.inr ⟨hno, rfl, rfl⟩)
    rw [hJ] at k8 k13 ⊢
    intro L1 H locs ls ⟨hP1, hD1, hL1, hS1⟩ hl1
    have hF : ∀ q, va_A (xws cA μ L1) H.size q → va_A (xws cA μ L) s.heap.size q := by
      intro q h
      rcases h with ⟨j, e, h⟩ | h
      · exact hD1.2 j _ h
      · exact hA q (Nat.le_trans hS1.1 h)
    obtain ⟨hlk, hini, hcode, hy, hmx⟩ := sL_7
    obtain ⟨j, hj⟩ := xget (cA := cA) (hL1 (A 0) _ (h.1.1.s 0 14 18))
    rw [cell_obj (h.1.1.s 0 14 18)] at hj
    refine vx_calli (a := #[]) (vx_runV (As := [.int v, .int y]) (rest := [.int 0, .ref w]) ⟨hx, hb, hml, hown, hts⟩ (F_met hl D cA L1 H.size h) ⟨callB_of 2 hts (gtbl_goodC hcode) rfl rfl rfl (hts _ hini) (hts _ hlk) hy ⟨Nat.le_of_ble_eq_true rfl, Nat.le_of_ble_eq_true rfl⟩, hts _ iX11_firm, hts _ eX11_firm⟩ ⟨fmblind, va_recv hK hP1 (show vwCl[10]? = some (RX11, TX11, 18) from rfl) hj, fun U hU hW9 => ⟨rfl, xpre hP1 hD1 hL1 hS1 hK hA hRO hNw hU hW9, zpre hD1 hS1 hA hZ hU hW9⟩⟩ rfl rfl hl1.1 rfl (lv_room (Nat.le_of_ble_eq_true rfl)) dL_firm_5 ⟨Nat.le_of_ble_eq_true rfl, Nat.le_of_ble_eq_true rfl⟩) hS1 (fun q _ h => hF q h) hF (fun q _ h => hF q h) ?_ ?_
    · intro E ce q9 u t H1 locs1 ht hal hno hB hsz hk hS2 hcell hvm hcl
      obtain ⟨rfl, hP2, hD2, hL2⟩ := hB
      refine vx_catch (name := nNSE) (E := nNSE) hown [] ⟨0, 10, 13, 13⟩ [] htb (fun z hz => nomatch hz) (by decide) (by decide) (hts _ lf_cls) (va_tabs rfl rfl (hZ.2.2 _ (by simp [nseBad]))) hcell hvm hcl ?_
      exact k13 q9 hno u H1 locs1 ls ⟨by rw [← ht]; exact hP2, hD2.weaken (fun _ _ _ h => hF _ h), hL2, hS2⟩ hl1
    · intro r u t H1 locs1 ht hal hp hB hsz hk hS2
      obtain ⟨hP2, hD2, hL2⟩ := hB
      exact k8 r hp.1 hp.2 u H1 locs1 ls ⟨by rw [← ht]; exact hP2, hD2.weaken (fun _ _ _ h => hF _ h), hL2, hS2⟩ hl1
  rw [hJ] at hgo
  exact hgo L s.heap [] _ ⟨hP, hD, hLd, va_S.rf⟩ hl0
end lf
