/-- a hop in words -/
def hopT (nmF : Nat → List Nat) (r : Rc) : List Nat := [32, 62] ++ dg (r.rt / 10) ++ (if r.rt % 10 = 0 then [] else [46] ++ dg (r.rt % 10)) ++ [37] ++ (if r.ar = 0 then [] else [33] ++ dg r.ar) ++ [32] ++ nmT (nmF r.fm)
/-- a way in words -/
def wayT (nmF : Nat → List Nat) (u : Nat) (rs : List Rc) : List Nat := nmT (nmF u) ++ (rs.map (hopT nmF)).flatten
theorem wayT_one {nmF : Nat → List Nat} {u : Nat} {rs : List Rc} {r : Rc} : wayT nmF u (rs ++ [r]) = wayT nmF u rs ++ hopT nmF r := by
  unfold wayT
  rw [List.map_append, List.flatten_append, List.append_assoc, List.map_singleton, List.flatten_singleton]
theorem rt_ok : ∀ x, x ≤ 1000 → nI x / 10 = nI (x / 10) ∧ nI x - nI x / 10 * 10 = nI (x % 10) := by decide +kernel
section sbg
variable {d : Nat} {ro : Nat → Nat} {J : JT}
/-- the way and the book as tell reads them -/
def tlR (μ : Hp) (w row bk fn u nf : Nat) (rs : List Rc) (nmF : Nat → List Nat) : Prop :=
  (hS μ w = some (13, 5) ∧ hR μ w 0 = some row ∧ hS μ row = some (0, 35) ∧ hS μ bk = some (6, 9) ∧ hR μ bk 1 = some fn ∧ hS μ fn = some (2, 8)) ∧ (hI μ w 1 = nI u ∧ hI μ w 2 = nI rs.length ∧ rcs (hI μ row) rs) ∧ ∀ j, j < nf → nmOk (nmF j) ∧ hL μ fn j = lN (codC (nmF j))
theorem tlR.fr {μ μ' : Hp} {a b b' N w row bk fn u nf : Nat} {l : List Nat} {rs : List Rc} {nmF : Nat → List Nat} (h : tlR μ w row bk fn u nf rs nmF) (hs : sb μ a b N l) (hF : sF a b b' μ μ') : tlR μ' w row bk fn u nf rs nmF := by
  obtain ⟨⟨h1, h2, h3, h4, h5, h6⟩, ⟨h7, h8, h9⟩, h10⟩ := h
  have ne : ∀ c x, hS μ c = some x → x.1 ≠ 4 → x.1 ≠ 1 → c ≠ a ∧ c ≠ b := fun c x hc k1 k2 => ⟨fun e => by rw [e, hs.1.1] at hc; cases hc; exact k1 rfl, fun e => by rw [e, hs.2.1.1] at hc; cases hc; exact k2 rfl⟩
  have kp : ∀ c x, hS μ c = some x → x.1 ≠ 4 → x.1 ≠ 1 → hI μ' c = hI μ c ∧ hL μ' c = hL μ c ∧ hR μ' c = hR μ c := fun c x hc k1 k2 => hF.2.2 c x (ne c x hc k1 k2).1 (ne c x hc k1 k2).2 hc
  have kw := kp w _ h1 (by decide) (by decide)
  have kr := kp row _ h3 (by decide) (by decide)
  have kb := kp bk _ h4 (by decide) (by decide)
  have kf := kp fn _ h6 (by decide) (by decide)
  refine ⟨⟨hF.2.1 _ _ h1, by rw [kw.2.2]; exact h2, hF.2.1 _ _ h3, hF.2.1 _ _ h4, by rw [kb.2.2]; exact h5, hF.2.1 _ _ h6⟩, ⟨by rw [kw.1]; exact h7, by rw [kw.1]; exact h8, by rw [kr.1]; exact h9⟩, fun j hj => ?_⟩
  rw [kf.2.1]
  exact h10 j hj
/-- while telling: c names put, at most M characters -/
def tlP (μ0 : Hp) (a b0 N0 w row bk fn u nf : Nat) (rs : List Rc) (nmF : Nat → List Nat) (c M : Nat) (l : List Nat) (μ : Hp) (k n : Nat) : Prop :=
  ∃ b N, sb μ a b N l ∧ tlR μ w row bk fn u nf rs nmF ∧ sF a b0 b μ0 μ ∧ N0 ≤ N ∧ k ≤ 8 * c + (N - N0) ∧ n ≤ 800 * c + 2 * (N - N0) ∧ l.length ≤ M
variable {μ0 : Hp} {a b0 N0 w row bk fn u nf : Nat} {rs : List Rc} {nmF : Nat → List Nat} {c M : Nat} {l : List Nat} {μ : Hp} {k n pc : Nat} {lv : List (Nat × Value)} {st : List Value}
theorem t_apC {x : Nat} (hx : x < 128) (g : xCtx RX9 cX9_tell 5 d 448 5600 yX9_tell.name ro J) (hd : 7 ≤ d) (hb0 : hS μ0 b0 = some (1, N0)) (h : tlP μ0 a b0 N0 w row bk fn u nf rs nmF c M l μ k n) (hc : c ≤ 6) (hM : M + 1 ≤ 190) (hW : (st.map fun v => v.category).sum ≤ 8) (hdg : decode cX9_tell pc = .ok (.invokevirtual 52, 3)) (kk : ∀ μ' k' n', tlP μ0 a b0 N0 w row bk fn u nf rs nmF c (M + 1) (l ++ [x]) μ' k' n' → J μ' k' n' (pc + 3) lv (.ref a :: st)) : J μ k n pc lv (.int (nI x) :: .ref a :: st) := by
  obtain ⟨b, N, h1, hT, hF, hN0, hk, hn, hM1⟩ := h
  have hg := gCost N (l.length + 1)
  have h4 := h1.2.1.2.2.2
  have hg3 := hg.2.2 h4 (by omega)
  have hg4 := hg.1.1
  have hg5 := hg.2.1
  refine r_callV (d' := d - 1) (st := st) (As := [.int (nI x)]) g sX9_52 iJ4_append_cf468 eJ4_append_cf468 (show vwCl[0]? = some ("java/lang/StringBuilder", TJ4, 4) from rfl) h1.1.1 rfl hW hdg (by omega) (by omega) (by omega) (c_apC4 (by omega) h1 (by omega) hx) (fun r μ' hz => ?_)
  obtain ⟨rfl, b2, h2, hF2⟩ := hz
  exact kk _ _ _ ⟨b2, _, h2, hT.fr h1 hF2, hF.tt hb0 hF2, by omega, by omega, by omega, by rw [List.length_append]; first | omega | (show l.length + 1 ≤ M + 1; omega) | (show l.length + 2 ≤ M + 2; omega)⟩
theorem t_apS  (g : xCtx RX9 cX9_tell 5 d 448 5600 yX9_tell.name ro J) (hd : 7 ≤ d) (hb0 : hS μ0 b0 = some (1, N0)) (h : tlP μ0 a b0 N0 w row bk fn u nf rs nmF c M l μ k n) (hc : c ≤ 6) (hM : M + 2 ≤ 190) (hW : (st.map fun v => v.category).sum ≤ 8) (hdg : decode cX9_tell pc = .ok (.invokevirtual 43, 3)) (kk : ∀ μ' k' n', tlP μ0 a b0 N0 w row bk fn u nf rs nmF c (M + 2) (l ++ [32, 62]) μ' k' n' → J μ' k' n' (pc + 3) lv (.ref a :: st)) : J μ k n pc lv (.ref (ro 7) :: .ref a :: st) := by
  obtain ⟨b, N, h1, hT, hF, hN0, hk, hn, hM1⟩ := h
  have hg := gCost N (l.length + 2)
  have h4 := h1.2.1.2.2.2
  have hg3 := hg.2.2 h4 (by omega)
  have hg4 := hg.1.1
  have hg5 := hg.2.1
  refine r_callV (d' := d - 1) (st := st) (As := [.ref (ro 7)]) g sX9_43 iJ4_append_15ec4 eJ4_append_15ec4 (show vwCl[0]? = some ("java/lang/StringBuilder", TJ4, 4) from rfl) h1.1.1 rfl hW hdg (by omega) (by omega) (by omega) (c_apS4 (by omega) h1 (by omega)) (fun r μ' hz => ?_)
  obtain ⟨rfl, b2, h2, hF2⟩ := hz
  exact kk _ _ _ ⟨b2, _, h2, hT.fr h1 hF2, hF.tt hb0 hF2, by omega, by omega, by omega, by rw [List.length_append]; first | omega | (show l.length + 1 ≤ M + 1; omega) | (show l.length + 2 ≤ M + 2; omega)⟩
theorem t_apI {x : Nat} (hx : x ≤ 100) (g : xCtx RX9 cX9_tell 5 d 448 5600 yX9_tell.name ro J) (hd : 7 ≤ d) (hb0 : hS μ0 b0 = some (1, N0)) (h : tlP μ0 a b0 N0 w row bk fn u nf rs nmF c M l μ k n) (hc : c ≤ 6) (hM : M + 3 ≤ 190) (hW : (st.map fun v => v.category).sum ≤ 8) (hdg : decode cX9_tell pc = .ok (.invokevirtual 49, 3)) (kk : ∀ μ' k' n', tlP μ0 a b0 N0 w row bk fn u nf rs nmF c (M + 3) (l ++ dg x) μ' k' n' → J μ' k' n' (pc + 3) lv (.ref a :: st)) : J μ k n pc lv (.int (nI x) :: .ref a :: st) := by
  obtain ⟨b, N, h1, hT, hF, hN0, hk, hn, hM1⟩ := h
  have hdl := dg_len x hx
  have hg := gCost N (l.length + (dg x).length)
  have h4 := h1.2.1.2.2.2
  have hg3 := hg.2.2 h4 (by omega)
  have hg4 := hg.1.1
  have hg5 := hg.2.1
  refine r_callV (d' := d - 1) (st := st) (As := [.int (nI x)]) g sX9_49 iJ4_append_bf812 eJ4_append_bf812 (show vwCl[0]? = some ("java/lang/StringBuilder", TJ4, 4) from rfl) h1.1.1 rfl hW hdg (by omega) (by omega) (by omega) (c_apI4 (by omega) h1 (by omega) hx) (fun r μ' hz => ?_)
  obtain ⟨rfl, b2, h2, hF2⟩ := hz
  exact kk _ _ _ ⟨b2, _, h2, hT.fr h1 hF2, hF.tt hb0 hF2, by omega, by omega, by omega, by rw [List.length_append]; first | omega | (show l.length + 1 ≤ M + 1; omega) | (show l.length + 2 ≤ M + 2; omega)⟩
theorem t_putN {ns : List Nat} (hns : nmOk ns) (g : xCtx RX9 cX9_tell 5 d 448 5600 yX9_tell.name ro J) (hd : 7 ≤ d) (hb0 : hS μ0 b0 = some (1, N0)) (h : tlP μ0 a b0 N0 w row bk fn u nf rs nmF c M l μ k n) (hc : c ≤ 5) (hM : M + 8 ≤ 190) (hdg : decode cX9_tell pc = .ok (.invokestatic 37, 3)) (kk : ∀ μ' k' n', tlP μ0 a b0 N0 w row bk fn u nf rs nmF (c + 1) (M + 8) (l ++ nmT ns) μ' k' n' → J μ' k' n' (pc + 3) lv []) : J μ k n pc lv [.long (lN (codC ns)), .ref a] := by
  obtain ⟨b, N, h1, hT, hF, hN0, hk, hn, hM1⟩ := h
  have h4 := h1.2.1.2.2.2
  refine r_callS (d' := d - 1) (st := []) (As := [.ref a, .long (lN (codC ns))]) g sX9_37 iX9_putName rfl (Nat.le_of_ble_eq_true rfl) hdg (by omega) (by omega) (by omega) (c_putN (by omega) h1 hns (by omega)) (fun r μ' hz => ?_)
  obtain ⟨rfl, b2, N2, hN2, h2, hF2⟩ := hz
  exact kk _ _ _ ⟨b2, N2, h2, hT.fr h1 hF2, hF.tt hb0 hF2, by omega, by omega, by omega, by rw [List.length_append, nmT, List.length_map]; have := hns.2.1; omega⟩
theorem tlP.le {M' : Nat} (h : tlP μ0 a b0 N0 w row bk fn u nf rs nmF c M l μ k n) (hM : M ≤ M') : tlP μ0 a b0 N0 w row bk fn u nf rs nmF c M' l μ k n := by
  obtain ⟨b, N, h1, h2, h3, h4, h5, h6, h7⟩ := h
  exact ⟨b, N, h1, h2, h3, h4, h5, h6, Nat.le_trans h7 hM⟩
theorem rc_some {rs : List Rc} {i : Nat} {x : Rc} (h : rs[i]? = some x) : rs.take (i + 1) = rs.take i ++ [x] := by
  rw [List.take_add_one, h]
  rfl
theorem nI0 {x : Nat} (h : x < 2 ^ 31) (e : nI x = 0) : x = 0 := by
  have := nI_clamp h
  rw [e] at this
  exact this.symm
theorem c_tell (hd : 7 ≤ d) (hs0 : sb μ0 a b0 N0 []) (hT0 : tlR μ0 w row bk fn u nf rs nmF) (hu : u < nf) (hnf : nf ≤ 8) (hl5 : rs.length ≤ 5) (hrs : ∀ q ∈ rs, q.fm < nf ∧ q.rt ≤ 1000 ∧ q.ar ≤ 5) : xC d yX9_tell cX9_tell 5 none 448 5600 [.ref w, .ref a, .ref bk] μ0 ro (fun r μ' => r = none ∧ ∃ b' N', N0 ≤ N' ∧ sb μ' a b' N' (wayT nmF u rs) ∧ sF a b0 b' μ0 μ') := by
  refine xC_intro (own := RX9) (lv := [(0, .ref w), (1, .ref a), (2, .ref bk)]) (by decide) rfl (Nat.le_of_ble_eq_true rfl) rfl (fun J g hr => ?_)
  have hb0 := hs0.2.1.1
  refine r_aload_n g dX9_tell_0 rfl ?_
  refine r_aload_n g dX9_tell_1 rfl ?_
  refine r_getR g fX9_33 rfl (hT0.1.2.2.2.1) (hT0.1.2.2.2.2.1) dX9_tell_2 ?_
  refine r_aload_n g dX9_tell_5 rfl ?_
  refine r_getI g fX9_15 rfl (hT0.1.1) dX9_tell_6 ?_
  refine r_nmV (.int (nI u)) (by rw [hT0.2.1.1]) ?_
  refine r_laload g hT0.1.2.2.2.2.2 (vp_in_nI (n := u) (by omega) (by omega)) dX9_tell_9 ?_
  refine r_nmV (.long (lN (codC (nmF (u))))) (by rw [nI_clamp (by omega), (hT0.2.2 _ (hu)).2]) ?_
  refine t_putN (hT0.2.2 u hu).1 g hd hb0 (c := 0) (M := 0) (l := []) ⟨b0, N0, hs0, hT0, sF.rf, Nat.le_refl _, Nat.zero_le _, Nat.zero_le _, Nat.le_refl _⟩ (by omega) (by omega) dX9_tell_10 (fun μ1 k1 n1 h1 => ?_)
  refine r_iconst g 0 dX9_tell_13 (by decide) ?_
  refine r_istore_n g [(3, .int 0), (0, .ref w), (1, .ref a), (2, .ref bk)] dX9_tell_14 (by decide) rfl ?_
  have key : ∀ m i, i + m = rs.length → ∀ μ k n, tlP μ0 a b0 N0 w row bk fn u nf rs nmF (i + 1) (8 + 23 * i) (wayT nmF u (rs.take i)) μ k n → J μ k n 15 [(3, .int (nI i)), (0, .ref w), (1, .ref a), (2, .ref bk)] [] := by
    intro m
    induction m with
    | zero =>
      intro i hi μ k n h1
      obtain ⟨b, N, hs, hT, hF, hN0, hk, hn, -⟩ := h1
      refine r_iload_n g dX9_tell_15 rfl ?_
      refine r_aload_n g dX9_tell_16 rfl ?_
      refine r_getI g fX9_19 rfl (hT.1.1) dX9_tell_17 ?_
      refine r_nmV (.int (nI rs.length)) (by rw [hT.2.1.2.1]) ?_
      refine r_icmp_ge g 139 dX9_tell_20 (by decide) (fun _ => ?_) (fun c => absurd (nI_le (by omega) (by omega)) c)
      have hN4 := hs.2.1.2.2.2
      refine hr.1 rfl _ _ _ _ _ dX9_tell_139 (by omega) (by omega) ⟨rfl, b, N, hN0, ?_, hF⟩
      rw [List.take_of_length_le (by omega)] at hs
      exact hs
    | succ m ih =>
      intro i hi μ1 k1 n1 h1
      have hil : i < rs.length := by omega
      obtain ⟨q, hq⟩ : ∃ q, rs[i]? = some q := ⟨_, List.getElem?_eq_getElem hil⟩
      have hq2 := hrs q (List.mem_of_getElem? hq)
      obtain ⟨b1, N1, hs1, hT, hF1, hr1⟩ := id h1
      refine r_iload_n g dX9_tell_15 rfl ?_
      refine r_aload_n g dX9_tell_16 rfl ?_
      refine r_getI g fX9_19 rfl (hT.1.1) dX9_tell_17 ?_
      refine r_nmV (.int (nI rs.length)) (by rw [hT.2.1.2.1]) ?_
      refine r_icmp_ge g 139 dX9_tell_20 (by decide) (fun c => absurd c (nI_ge (by omega) (by omega))) (fun _ => ?_)
      refine r_aload_n g dX9_tell_23 rfl ?_
      refine r_getR g fX9_11 rfl (hT.1.1) (hT.1.2.1) dX9_tell_24 ?_
      refine r_iconst g 5 dX9_tell_27 (by decide) ?_
      refine r_iload_n g dX9_tell_28 rfl ?_
      refine r_iadd g dX9_tell_29 ?_
      refine r_nmV (.int (nI (5 + i))) (by rw [nIadd]; rfl) ?_
      refine r_iaload g hT.1.2.2.1 (vp_in_nI (n := 5 + i) (by omega) (by omega)) dX9_tell_30 ?_
      refine r_nmV (.int (nI q.rt)) (by rw [nI_clamp (by omega), (hT.2.1.2.2 i q hq).2.1]) ?_
      refine r_istore g [(4, .int (nI q.rt)), (3, .int (nI i)), (0, .ref w), (1, .ref a), (2, .ref bk)] dX9_tell_31 (by decide) rfl ?_
      refine r_aload_n g dX9_tell_33 rfl ?_
      refine r_ldcS g (List.mem_of_getElem? (i := 1) rfl) dX9_tell_34 ?_
      refine t_apS g hd hb0 h1 (by omega) (by omega) (Nat.le_of_ble_eq_true rfl) dX9_tell_36 (fun μ2 k2 n2 h2 => ?_)
      obtain ⟨b2, N2, hs2, hT2, hF2, hr2⟩ := id h2
      refine r_iload g dX9_tell_39 rfl ?_
      refine r_bipush g 10 dX9_tell_41 (by decide) ?_
      refine r_idiv g (by decide) dX9_tell_43 ?_
      refine r_nmV (.int (nI (q.rt / 10))) (by rw [(rt_ok _ hq2.2.1).1]) ?_
      refine t_apI (x := q.rt / 10) (by omega) g hd hb0 h2 (by omega) (by omega) (Nat.le_of_ble_eq_true rfl) dX9_tell_44 (fun μ3 k3 n3 h3 => ?_)
      obtain ⟨b3, N3, hs3, hT3, hF3, hr3⟩ := id h3
      refine r_pop g dX9_tell_47 rfl ?_
      refine r_iload g dX9_tell_48 rfl ?_
      refine r_bipush g 10 dX9_tell_50 (by decide) ?_
      refine r_irem g (by decide) dX9_tell_52 ?_
      refine r_nmV (.int (nI (q.rt % 10))) (by rw [(rt_ok _ hq2.2.1).2]) ?_
      have k109 : ∀ l8 μ8 k8 n8, wayT nmF u (rs.take i) ++ hopT nmF q = l8 ++ [32] ++ nmT (nmF q.fm) → tlP μ0 a b0 N0 w row bk fn u nf rs nmF (i + 1) (8 + 23 * i + 14) l8 μ8 k8 n8 → J μ8 k8 n8 109 [(4, .int (nI q.rt)), (3, .int (nI i)), (0, .ref w), (1, .ref a), (2, .ref bk)] [] := fun l8 μ8 k8 n8 he h8 => by
        refine r_aload_n g dX9_tell_109 rfl ?_
        refine r_bipush g 32 dX9_tell_110 (by decide) ?_
        refine t_apC (x := 32) (by omega) g hd hb0 h8 (by omega) (by omega) (Nat.le_of_ble_eq_true rfl) dX9_tell_112 (fun μ9 k9 n9 h9 => ?_)
        obtain ⟨b9, N9, hs9, hT9, hF9, hr9⟩ := id h9
        refine r_pop g dX9_tell_115 rfl ?_
        refine r_aload_n g dX9_tell_116 rfl ?_
        refine r_aload_n g dX9_tell_117 rfl ?_
        refine r_getR g fX9_33 rfl (hT9.1.2.2.2.1) (hT9.1.2.2.2.2.1) dX9_tell_118 ?_
        refine r_aload_n g dX9_tell_121 rfl ?_
        refine r_getR g fX9_11 rfl (hT9.1.1) (hT9.1.2.1) dX9_tell_122 ?_
        refine r_iconst g 0 dX9_tell_125 (by decide) ?_
        refine r_iload_n g dX9_tell_126 rfl ?_
        refine r_iadd g dX9_tell_127 ?_
        refine r_nmV (.int (nI (0 + i))) (by rw [nIadd]; rfl) ?_
        refine r_iaload g hT9.1.2.2.1 (vp_in_nI (n := 0 + i) (by omega) (by omega)) dX9_tell_128 ?_
        refine r_nmV (.int (nI q.fm)) (by rw [nI_clamp (by omega), Nat.zero_add, (hT9.2.1.2.2 i q hq).1]) ?_
        refine r_laload g hT9.1.2.2.2.2.2 (vp_in_nI (n := q.fm) (by omega) (by omega)) dX9_tell_129 ?_
        refine r_nmV (.long (lN (codC (nmF (q.fm))))) (by rw [nI_clamp (by omega), (hT9.2.2 _ (hq2.1)).2]) ?_
        refine t_putN (hT9.2.2 _ hq2.1).1 g hd hb0 h9 (by omega) (by omega) dX9_tell_130 (fun μz kz nz hz => ?_)
        refine r_iinc g (nI (i + 1)) [(3, .int (nI (i + 1))), (4, .int (nI q.rt)), (0, .ref w), (1, .ref a), (2, .ref bk)] dX9_tell_133 rfl (by rw [nIadd]; rfl) (by decide) rfl ?_
        refine r_goto g 15 dX9_tell_136 (by decide) ?_
        refine r_sub g (lv' := [(3, .int (nI (i + 1))), (0, .ref w), (1, .ref a), (2, .ref bk)]) (⟨rfl, rfl, rfl, rfl, trivial⟩) ?_
        refine ih (i + 1) (by omega) _ _ _ ?_
        rw [rc_some hq, wayT_one, he]
        exact hz.le (by omega)
      have k71 : ∀ l5 μ5 k5 n5, wayT nmF u (rs.take i) ++ hopT nmF q = l5 ++ [37] ++ (if q.ar = 0 then [] else [33] ++ dg q.ar) ++ [32] ++ nmT (nmF q.fm) → tlP μ0 a b0 N0 w row bk fn u nf rs nmF (i + 1) (8 + 23 * i + 9) l5 μ5 k5 n5 → J μ5 k5 n5 71 [(4, .int (nI q.rt)), (3, .int (nI i)), (0, .ref w), (1, .ref a), (2, .ref bk)] [] := fun l5 μ5 k5 n5 he h5 => by
        refine r_aload_n g dX9_tell_71 rfl ?_
        refine r_bipush g 37 dX9_tell_72 (by decide) ?_
        refine t_apC (x := 37) (by omega) g hd hb0 h5 (by omega) (by omega) (Nat.le_of_ble_eq_true rfl) dX9_tell_74 (fun μ6 k6 n6 h6 => ?_)
        obtain ⟨b6, N6, hs6, hT6, hF6, hr6⟩ := id h6
        refine r_pop g dX9_tell_77 rfl ?_
        refine r_aload_n g dX9_tell_78 rfl ?_
        refine r_getR g fX9_11 rfl (hT6.1.1) (hT6.1.2.1) dX9_tell_79 ?_
        refine r_bipush g 10 dX9_tell_82 (by decide) ?_
        refine r_iload_n g dX9_tell_84 rfl ?_
        refine r_iadd g dX9_tell_85 ?_
        refine r_nmV (.int (nI (10 + i))) (by rw [nIadd]; rfl) ?_
        refine r_iaload g hT6.1.2.2.1 (vp_in_nI (n := 10 + i) (by omega) (by omega)) dX9_tell_86 ?_
        refine r_nmV (.int (nI q.ar)) (by rw [nI_clamp (by omega), (hT6.2.1.2.2 i q hq).2.2.1]) ?_
        refine r_if_eq g 109 dX9_tell_87 (by decide) (fun c => ?_) (fun c => ?_)
        · have e : q.ar = 0 := nI0 (by omega) c
          rw [if_pos e, List.append_nil] at he
          exact k109 _ _ _ _ he (h6.le (by omega))
        · have e : ¬ q.ar = 0 := fun e => c (by rw [e]; rfl)
          rw [if_neg e] at he
          refine r_aload_n g dX9_tell_90 rfl ?_
          refine r_bipush g 33 dX9_tell_91 (by decide) ?_
          refine t_apC (x := 33) (by omega) g hd hb0 h6 (by omega) (by omega) (Nat.le_of_ble_eq_true rfl) dX9_tell_93 (fun μ7 k7 n7 h7 => ?_)
          obtain ⟨b7, N7, hs7, hT7, hF7, hr7⟩ := id h7
          refine r_aload_n g dX9_tell_96 rfl ?_
          refine r_getR g fX9_11 rfl (hT7.1.1) (hT7.1.2.1) dX9_tell_97 ?_
          refine r_bipush g 10 dX9_tell_100 (by decide) ?_
          refine r_iload_n g dX9_tell_102 rfl ?_
          refine r_iadd g dX9_tell_103 ?_
          refine r_nmV (.int (nI (10 + i))) (by rw [nIadd]; rfl) ?_
          refine r_iaload g hT7.1.2.2.1 (vp_in_nI (n := 10 + i) (by omega) (by omega)) dX9_tell_104 ?_
          refine r_nmV (.int (nI q.ar)) (by rw [nI_clamp (by omega), (hT7.2.1.2.2 i q hq).2.2.1]) ?_
          refine t_apI (x := q.ar) (by omega) g hd hb0 h7 (by omega) (by omega) (Nat.le_of_ble_eq_true rfl) dX9_tell_105 (fun μ8 k8 n8 h8 => ?_)
          obtain ⟨b8, N8, hs8, hT8, hF8, hr8⟩ := id h8
          refine r_pop g dX9_tell_108 rfl ?_
          exact k109 _ _ _ _ (by rw [he]; simp only [List.append_assoc]) (h8.le (by omega))
      refine r_if_eq g 71 dX9_tell_53 (by decide) (fun c => ?_) (fun c => ?_)
      · have e : q.rt % 10 = 0 := nI0 (by omega) c
        refine k71 _ _ _ _ ?_ (h3.le (by omega))
        unfold hopT
        rw [if_pos e]
        simp only [List.append_assoc, List.append_nil, List.nil_append]
      · have e : ¬ q.rt % 10 = 0 := fun e => c (by rw [e]; rfl)
        refine r_aload_n g dX9_tell_56 rfl ?_
        refine r_bipush g 46 dX9_tell_57 (by decide) ?_
        refine t_apC (x := 46) (by omega) g hd hb0 h3 (by omega) (by omega) (Nat.le_of_ble_eq_true rfl) dX9_tell_59 (fun μ4 k4 n4 h4 => ?_)
        obtain ⟨b4, N4, hs4, hT4, hF4, hr4⟩ := id h4
        refine r_iload g dX9_tell_62 rfl ?_
        refine r_bipush g 10 dX9_tell_64 (by decide) ?_
        refine r_irem g (by decide) dX9_tell_66 ?_
        refine r_nmV (.int (nI (q.rt % 10))) (by rw [(rt_ok _ hq2.2.1).2]) ?_
        refine t_apI (x := q.rt % 10) (by omega) g hd hb0 h4 (by omega) (by omega) (Nat.le_of_ble_eq_true rfl) dX9_tell_67 (fun μ5 k5 n5 h5 => ?_)
        obtain ⟨b5, N5, hs5, hT5, hF5, hr5⟩ := id h5
        refine r_pop g dX9_tell_70 rfl ?_
        refine k71 _ _ _ _ ?_ (h5.le (by omega))
        unfold hopT
        rw [if_neg e]
        simp only [List.append_assoc]
  refine key rs.length 0 (by omega) _ _ _ ?_
  have e : wayT nmF u (rs.take 0) = [] ++ nmT (nmF u) := by unfold wayT; rw [List.take_zero, List.map_nil, List.flatten_nil, List.append_nil, List.nil_append]
  rw [e]
  exact h1
end sbg
