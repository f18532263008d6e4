/-! firm's contract, and the law's own firm, which catches -/
/-- the words of the throw -/
def nseWin : List Cond := ([23, 37, 38].filterMap (fun i => tables_1[i]?)) ++ (tables_1.drop 1133).take 60
theorem nseWin_in {w : Cond} (h : w ∈ nseWin) : w ∈ tables_1 := by
  rcases List.mem_append.mp h with h | h
  · obtain ⟨i, -, hi⟩ := List.mem_filterMap.mp h
    exact List.mem_of_getElem? hi
  · exact List.mem_of_mem_drop (List.mem_of_mem_take h)
def nseW : List Cond := vx_at0 "TreatyRouter" 162 nNSE ["java/lang/RuntimeException", "java/lang/Exception"]
/-- those that are carried beside the tables -/
def nseBad : List Cond := [.declares ⟨"java/lang/RuntimeException", "<init>", "()V"⟩, .declares ⟨"java/lang/Exception", "<init>", "()V"⟩, .declares ⟨"java/lang/Throwable", "<init>", "()V"⟩, .castable nNSE nNSE]
theorem nse_all : nseW.all (fun w => (decide (w ∈ nseWin) && goodWord w) || decide (w ∈ nseBad)) = true := by decide +kernel
theorem nse_in {w : Cond} (h : w ∈ nseW) : (w ∈ gtbl ∧ goodWord w = true) ∨ w ∈ nseBad := by
  have h1 := List.all_eq_true.mp nse_all w h
  simp only [Bool.or_eq_true, Bool.and_eq_true, decide_eq_true_eq] at h1
  rcases h1 with h1 | h1
  · exact Or.inl ⟨gtbl_in (List.mem_append_right _ (nseWin_in h1.1)) h1.2, h1.2⟩
  · exact Or.inr h1
theorem nseBad_ot : ∀ w ∈ nseBad, w.onTables = true := by decide
def tNw (U : State) : Prop := ∀ w ∈ nseBad, va_Nw w U
theorem tNw.warm {s U : State} (hW : s.WarmedH U.vm) (h : tNw s) : tNw U := by
  intro w hw
  have h1 := h w hw
  simp only [nseBad, List.mem_cons, List.not_mem_nil, or_false] at hw
  rcases hw with rfl | rfl | rfl | rfl
  · exact va_Nw.warmD hW h1
  · exact va_Nw.warmD hW h1
  · exact va_Nw.warmD hW h1
  · exact va_Nw.warmC hW h1
theorem nse_k : Cond.classLink "TreatyRouter" 160 nNSE ∈ gtbl := (tb_5 172 (by decide +kernel) rfl)
theorem nse_i : Cond.initialized nNSE ∈ gtbl := (tb_1 26 (by decide +kernel) rfl)
/-- Throwable's two statics -/
def tZq (A : Nat → Prop) (U : State) (H : Heap) : Prop := vx_Zq Bundle.tN "UNASSIGNED_STACK" Bundle.steD A U H ∧ vx_Zq Bundle.tN "SUPPRESSED_SENTINEL" Bundle.listD A U H ∧ tNw U
/-- at the call -/
def fmP (D : va_G) (cA : Nat → ClassId) (μ : Hp) (L : List Nat) (sz : Nat) (ro : Nat → Nat) : State → Prop := fun U =>
  (U.heap.size = sz ∧ va_P D vwCl (xws cA μ L) U.heap ∧ va_K D vwCl (xtys cA) U ∧ va_D (fun _ => True) (xws cA μ L) ∧ (∀ a x, hS μ a = some x → a ∈ L) ∧ xRO ro (va_A (xws cA μ L) sz) U U.heap ∧ xNw ro U) ∧ tZq (va_A (xws cA μ L) sz) U U.heap
theorem fmblind {D : va_G} {cA : Nat → ClassId} {L : List Nat} {μ : Hp} {ro : Nat → Nat} {sz : Nat} {As : List Value} : FrameBlind (va_Pc As (fmP D cA μ L sz ro)) := by
  intro a U g mk q
  obtain ⟨q0, ⟨q1, q2, q3, q4, q5, q6, q7⟩, q8, q9, q10⟩ := q
  exact ⟨q0, ⟨q1, q2, va_K.moved (u := U) (U := U.calling g mk a) (Vm.Alike.refl U.vm) q3, q4, q5, xRO.moved (u := U) (U := U.calling g mk a) (Vm.Alike.refl U.vm) q6, xNw.same (u := U) (U := U.calling g mk a) rfl q7⟩, vx_Zq.moved (u := U) (U := U.calling g mk a) (Vm.Alike.refl U.vm) q8, vx_Zq.moved (u := U) (U := U.calling g mk a) (Vm.Alike.refl U.vm) q9, fun w hw => va_tabs (u := U) (U := U.calling g mk a) (nseBad_ot w hw) rfl (q10 w hw)⟩
theorem zpre {s U : State} {cA : Nat → ClassId} {A0 : Nat → Prop} {L : List Nat} {μ : Hp} {H : Heap} {locs : List Loc} (hD : va_D A0 (xws cA μ L)) (hS1 : va_S A0 s.heap H locs) (hA : ∀ q, s.heap.size ≤ q → A0 q) (hZ : tZq A0 s s.heap) (hU : U.heap = H) (hW : s.WarmedH U.vm) : tZq (va_A (xws cA μ L) H.size) U U.heap := by
  have hF : ∀ q, va_A (xws cA μ L) H.size q → A0 q := by
    intro q h
    rcases h with ⟨j, e, h⟩ | h
    · exact hD.2 j _ h
    · exact hA q (Nat.le_trans hS1.1 h)
  rw [hU]
  exact ⟨vx_Zq.moved hW.alike ((hZ.1.kept hS1.2.1).narrow hF), vx_Zq.moved hW.alike ((hZ.2.1.kept hS1.2.1).narrow hF), hZ.2.2.warm hW⟩
/-- the picture behind it -/
def fmB (D : va_G) (cA : Nat → ClassId) (μ : Hp) (L : List Nat) (sz : Nat) (L' : List Nat) (t : State) : Prop := va_P D vwCl (xws cA μ L') t.heap ∧ va_D (va_A (xws cA μ L) sz) (xws cA μ L') ∧ ∀ a x, hS μ a = some x → a ∈ L'
section fmet
variable {ro : Nat → Nat} {μ : Hp} {A : Nat → Nat} {B : Bk} {f : Nat → Int32} {v y : Int32}
set_option maxHeartbeats 4000000 in
set_option maxRecDepth 100000 in
theorem F_met {l : Launch} (hl : l.stackTraces = false) (D : va_G) (cA : Nat → ClassId) (L : List Nat) (sz : Nat) (h : cQ μ A B f) :
    vx_Met l yX11_firm (.code yX11_firm cX11_firm 3 (some .int) :: gtbl) { frames := 8, cells := 1, slots := 6, locals := 64 * 8 } (va_Pc [.ref (A 0), .int v, .int y] (fmP D cA μ L sz ro))
      (va_Qi (fun (r : Int32) (_ : List Nat) => firmOk B v y ∧ r = aFirm B f v y) (fmB D cA μ L sz) (va_A (xws cA μ L) sz)) (vx_X (fun (_ : List Nat) => ¬ firmOk B v y) (fun E L' t => E = nNSE ∧ fmB D cA μ L sz L' t) (va_A (xws cA μ L) sz)) 1 6 (va_A (xws cA μ L) sz) := by
  refine vx_ofW (cc := cX11_firm) (maxL := 3) (ret := some .int) (by decide) rfl ?_
  intro p e s m args below meth c s₁ Bd hml htab hv
  obtain ⟨rfl, ⟨hsz, hP, hK, hD0, hLd, hRO, hNw⟩, hZ1, hZ2, hZ3⟩ := hv
  have hx := Bd.exec
  have hb := Bd.bytes
  have hr := Bd.returns
  have hts := atoms_spec (ws := .code yX11_firm cX11_firm 3 (some .int) :: gtbl) Bd.pre
  have hown : s.vm.findClass RX11 = some m.cls := findClass_of_methodNamed Bd.named
  have hlocks := Bd.notSynchronized
  have hin : meth.name = yX11_firm.name := (name_of_methodNamed Bd.named Bd.method).1
  subst hsz
  have hD := hD0.self (sz := s.heap.size)
  have hA : ∀ q : Nat, s.heap.size ≤ q → va_A (xws cA μ L) s.heap.size q := fun q h => Or.inr h
  have hl0 := lv_entry ([.ref (A 0), .int v, .int y] : List Value) (n := 3) (Nat.le_of_ble_eq_true rfl)
  rw [lg_entry_eq]
  have hctx : xCtx RX11 cX11_firm 3 8 1 6 yX11_firm.name ro (xJ p l e (headSpec (.code yX11_firm cX11_firm 3 (some .int) :: gtbl) { frames := 8, cells := 1, slots := 6, locals := 64 * 8 }).room s m ([.ref (A 0), .int v, .int y] : List Value).toArray below meth c D cA (va_A (xws cA μ L) s.heap.size) 3 (vx_MQ below (va_Qi (fun (r : Int32) (_ : List Nat) => firmOk B v y ∧ r = aFirm B f v y) (fmB D cA μ L s.heap.size) (va_A (xws cA μ L) s.heap.size)) (vx_X (fun (_ : List Nat) => ¬ firmOk B v y) (fun E L' t => E = nNSE ∧ fmB D cA μ L s.heap.size L' t) (va_A (xws cA μ L) s.heap.size)) ([.ref (A 0), .int v, .int y] : List Value).toArray s 1 6 (va_A (xws cA μ L) s.heap.size))) :=
    ⟨p, l, e, _, s, m, _, below, meth, c, D, cA, _, _, rfl, ⟨hx, hb, hml, hown, fun w hw => hts w (List.mem_cons_of_mem _ hw)⟩, hK, hA, ⟨hRO, hNw⟩, ⟨Nat.le_refl _, Nat.le_refl _, Nat.le_refl _, Nat.le_refl _⟩, hin⟩
  have hg : ∀ w ∈ gtbl, w.before ([.ref (A 0), .int v, .int y] : List Value).toArray s = true := fun w hw => hts w (List.mem_cons_of_mem _ hw)
  refine F_walk (v := v) (y := y) hctx (by decide) h ?_ ?_ L s.heap [] _ ⟨hP, hD, hLd, va_S.rf⟩ hl0
  · intro pc lv r hdg hok he L1 H locs ls ⟨hP1, hD1, hL1, hS1⟩ _
    refine vx_ret (W.widen (Nat.zero_le 1) (Nat.zero_le 6) ?_)
    exact W.zret hx hb hr rfl (fun t ht hW => ⟨⟨r, L1, rfl, ⟨hok, he⟩, by rw [ht]; exact hP1, hD1, hL1⟩, hS1.F ht⟩) hS1.2.2 hdg
  · intro lv hno L1 H locs ls ⟨hP1, hD1, hL1, hS1⟩ hl1
    refine vx_throw0 (names := ["java/lang/RuntimeException", "java/lang/Exception"]) (own := RX11) (cls := nNSE) (ik := 160) (ic := 162) (A := va_A (xws cA μ L) s.heap.size) hx hb hl hown (by decide) (by decide) (hg _ nse_k) (hg _ nse_i) (fun w hw => (nse_in hw).elim (fun q => hg w q.1) (fun q => va_tabs (nseBad_ot w q) rfl (hZ3 w q))) ?_ hZ1 hZ2 hS1 (hl1.1.trans hml.symm) dX11_firm_20 dX11_firm_23 dX11_firm_24 dX11_firm_27 (fun x hx9 => (htab x hx9).elim) (Nat.le_of_ble_eq_true rfl) (Nat.le_of_ble_eq_true rfl) (Nat.le_of_ble_eq_true rfl) (Nat.le_of_ble_eq_true rfl) hlocks ?_ hS1.2.2 (Nat.le_of_ble_eq_true rfl) (Nat.le_of_ble_eq_true rfl)
    · intro w hw
      rcases List.mem_cons.mp hw with rfl | hw
      · rfl
      · rcases List.mem_cons.mp hw with rfl | hw
        · rfl
        · show (w.onTables || goodWord w) = true
          rcases nse_in hw with q | q
          · rw [q.2, Bool.or_true]
          · rw [nseBad_ot w q, Bool.true_or]
    · intro t hal hsz hk
      refine ⟨L1, hno, ⟨rfl, hP1.kept (fun k q hq => hk _ (vx_lt hP1 hq)), hD1, hL1⟩, Nat.le_trans hS1.1 hsz, fun q h1 h2 => ?_⟩
      rw [hk q (Nat.lt_of_lt_of_le h1 hS1.1)]
      exact hS1.2.1 q h1 h2
end fmet
