/-! a way in words: the model -/
section msp
variable {d : Nat} {ro : Nat → Nat} {m : Nat} {X : Nat → Nat} {μ μ0 : Hp} {l : List Nat}
/-- the model's text since μ0 -/
def sayP (μ0 : Hp) (m : Nat) (X : Nat → Nat) (l : List Nat) (μ : Hp) : Prop := hI μ m 64 = nI l.length ∧ (∀ j c, l[j]? = some c → hI μ (X 63) j = nI c) ∧ Fr [m, X 63] μ0 μ ∧ ∀ k, k ≠ 64 → hI μ m k = hI μ0 m k
theorem sayP.sh (h : sayP μ0 m X l μ) (hs : mSh μ0 m X) : mSh μ m X := by
  unfold mSh
  rw [h.2.2.1.2.2.1, h.2.2.1.2.1]
  exact hs
theorem sayP.row (h : sayP μ0 m X l μ) (hs : mSh μ0 m X) (hj : mInj X) (i : Nat) (hi : i ∈ mK ∧ i ≠ 63 := by decide) : hI μ (X i) = hI μ0 (X i) := by
  refine h.2.2.1.2.2.2 _ (fun q => ?_)
  rcases List.mem_cons.mp q with e | q
  · exact hs.ne i hi.1 e
  · exact hi.2 (hj i 63 hi.1 (by decide) (List.mem_singleton.mp q))
theorem m_says {x : Nat} (hx : x < 128) (hs : mSh μ0 m X) (h : sayP μ0 m X l μ) (hl : l.length < 160) : xC d yX12_says cX12_says 2 none 0 0 [.ref m, .int (nI x)] μ ro (fun r μ' => r = none ∧ sayP μ0 m X (l ++ [x]) μ') := by
  have hsh := h.sh hs
  have hne := hsh.ne 63
  refine I_X12_says (fun J g hr => B_X12_says_0 g hr hsh.1 (hsh.r 63 1 160) (hsh.s 63 1 160) ?_)
  rw [h.1, nI_clamp (by omega), (chr_ok x hx).2.2.1, (chr_ok x hx).2.1]
  refine ⟨vp_in_nI (by omega) (by omega), fun v ev => ⟨rfl, ?_⟩⟩
  rw [hI_wI_n _ _ _ hne.symm, h.1] at ev
  subst ev
  refine ⟨?_, fun j c hj => ?_, (h.2.2.1.w1 (List.mem_cons_of_mem _ List.mem_cons_self)).w1 List.mem_cons_self, fun k hk => ?_⟩
  · rw [hI_wI_s, upd_s, List.length_append]; exact (nI_succ _).symm
  · rw [hI_wI_n _ _ _ hne, hI_wI_s]
    rcases Nat.lt_trichotomy j l.length with q | q | q
    · rw [List.getElem?_append_left q] at hj
      rw [upd_n _ (by omega)]
      exact h.2.1 j c hj
    · subst q
      rw [List.getElem?_append_right (Nat.le_refl _), Nat.sub_self] at hj
      cases hj
      exact upd_s _ _ _
    · rw [List.getElem?_eq_none (by rw [List.length_append, List.length_singleton]; omega)] at hj
      cases hj
  · rw [hI_wI_s, upd_n _ hk, hI_wI_n _ _ _ hne.symm]
    exact h.2.2.2 k hk
theorem m_num0 {x : Nat} (hx : x < 10) (hd : 1 ≤ d) (hs : mSh μ0 m X) (h : sayP μ0 m X l μ) (hl : l.length < 150) : xC d yX12_saysNumber cX12_saysNumber 2 none 0 0 [.ref m, .int (nI x)] μ ro (fun r μ' => r = none ∧ sayP μ0 m X (l ++ dg x) μ') := by
  refine I_X12_saysNumber (fun J g hr => B_X12_saysNumber_0 g hr (h.sh hs).1 ⟨fun _ => ?_, fun c => absurd (nI_lt (a := x) (b := 10) hx (by omega)) c⟩)
  rw [(rt_ok x (by omega)).2, show (48 : Int32) + nI (x % 10) = nI (48 + x % 10) from i_off 48 _]
  refine xCall_of (m_says (d := d - 1) (by omega) hs h (by omega)) (by omega) ?_
  rintro r μ' ⟨rfl, h'⟩
  refine ⟨rfl, rfl, ?_⟩
  rw [Nat.mod_eq_of_lt hx] at h'
  unfold dg
  rw [if_pos hx]
  exact h'
theorem m_num1 {x : Nat} (h10 : 10 ≤ x) (hx : x < 100) (hd : 2 ≤ d) (hs : mSh μ0 m X) (h : sayP μ0 m X l μ) (hl : l.length < 150) : xC d yX12_saysNumber cX12_saysNumber 2 none 0 0 [.ref m, .int (nI x)] μ ro (fun r μ' => r = none ∧ sayP μ0 m X (l ++ dg x) μ') := by
  refine I_X12_saysNumber (fun J g hr => B_X12_saysNumber_0 g hr (h.sh hs).1 ⟨fun c => absurd c (nI_nlt (a := x) (b := 10) h10 (by omega)), fun _ => ?_⟩)
  rw [(rt_ok x (by omega)).2, (rt_ok x (by omega)).1, show (48 : Int32) + nI (x % 10) = nI (48 + x % 10) from i_off 48 _]
  refine xCall_of (m_num0 (d := d - 1) (by omega) (by omega) hs h hl) (by omega) ?_
  rintro r μ1 ⟨rfl, h1⟩
  have hdl := dg_len (x / 10) (by omega)
  refine ⟨rfl, (h1.sh hs).1, xCall_of (m_says (d := d - 1) (by omega) hs h1 (by rw [List.length_append]; omega)) (by omega) ?_⟩
  rintro r μ2 ⟨rfl, h2⟩
  refine ⟨rfl, rfl, ?_⟩
  have e : dg x = dg (x / 10) ++ [48 + x % 10] := by
    unfold dg
    rw [if_neg (by omega), if_pos hx, if_pos (by omega)]
    rfl
  rw [e, ← List.append_assoc]
  exact h2
theorem m_num {x : Nat} (hx : x ≤ 100) (hd : 3 ≤ d) (hs : mSh μ0 m X) (h : sayP μ0 m X l μ) (hl : l.length < 150) : xC d yX12_saysNumber cX12_saysNumber 2 none 0 0 [.ref m, .int (nI x)] μ ro (fun r μ' => r = none ∧ sayP μ0 m X (l ++ dg x) μ') := by
  by_cases h10 : x < 10
  · exact m_num0 h10 (by omega) hs h hl
  · by_cases h100 : x < 100
    · exact m_num1 (by omega) h100 (by omega) hs h hl
    · have e : x = 100 := by omega
      subst e
      refine I_X12_saysNumber (fun J g hr => B_X12_saysNumber_0 g hr (h.sh hs).1 ⟨fun c => absurd c (by decide), fun _ => ?_⟩)
      rw [(rt_ok 100 (by omega)).2, (rt_ok 100 (by omega)).1, show (48 : Int32) + nI (100 % 10) = nI (48 + 100 % 10) from i_off 48 _]
      refine xCall_of (m_num1 (x := 10) (d := d - 1) (by omega) (by omega) (by omega) hs h hl) (by omega) ?_
      rintro r μ1 ⟨rfl, h1⟩
      have hdl := dg_len 10 (by omega)
      refine ⟨rfl, (h1.sh hs).1, xCall_of (m_says (x := 48) (d := d - 1) (by omega) hs h1 (by rw [List.length_append]; omega)) (by omega) ?_⟩
      rintro r μ2 ⟨rfl, h2⟩
      refine ⟨rfl, rfl, ?_⟩
      rw [List.append_assoc] at h2
      exact h2
theorem m_sNm {v : Nat} {ns : List Nat} (hd : 2 ≤ d) (hns : nmOk ns) (hv : v < 8) (hL0 : hL μ0 (X 18) v = lN (codM ns)) (hs : mSh μ0 m X) (h : sayP μ0 m X l μ) (hl : l.length < 150) : xC d yX12_saysName cX12_saysName 3 none 0 0 [.ref m, .int (nI v)] μ ro (fun r μ' => r = none ∧ sayP μ0 m X (l ++ nmT ns) μ') := by
  have h8 := hns.2.1
  refine I_X12_saysName (fun J g hr => B_X12_saysName_0 g hr ?_)
  have key : ∀ n i, i + n = ns.length → ∀ μ, sayP μ0 m X (l ++ nmT (ns.take i)) μ → J μ 0 0 2 [(0, .ref m), (1, .int (nI v)), (2, .int (nI i))] [] := by
    intro n
    induction n with
    | zero =>
      intro i hi μ h1
      have hsh := h1.sh hs
      refine B_X12_saysName_2 g hr hsh.1 (hsh.r 18 2 8) (hsh.s 18 2 8) ⟨vp_in_nI hv (by omega), ?_⟩
      rw [nI_clamp (by omega), h1.2.2.1.1, hL0]
      refine xCall_of (m_lettersOf (d := d - 1) hns) (by omega) ?_
      rintro r μ' ⟨rfl, rfl⟩
      refine ⟨_, rfl, fun _ => ⟨rfl, ?_⟩, fun c => absurd (nI_le (by omega) (by omega)) c⟩
      rw [List.take_of_length_le (by omega)] at h1
      exact h1
    | succ n ih =>
      intro i hi μ h1
      have hsh := h1.sh hs
      have hil : i < ns.length := by omega
      have hx : ns[i]? = some ns[i] := List.getElem?_eq_getElem hil
      have hx9 := hns.2.2 _ (List.getElem_mem hil)
      refine B_X12_saysName_2 g hr hsh.1 (hsh.r 18 2 8) (hsh.s 18 2 8) ⟨vp_in_nI hv (by omega), ?_⟩
      rw [nI_clamp (by omega), h1.2.2.1.1, hL0]
      refine xCall_of (m_lettersOf (d := d - 1) hns) (by omega) ?_
      rintro r μ' ⟨rfl, rfl⟩
      refine ⟨_, rfl, fun c => absurd c (nI_ge (by omega) (by omega)), fun _ => ⟨hsh.1, _, hsh.r 18 2 8, _, hsh.s 18 2 8, vp_in_nI hv (by omega), ?_⟩⟩
      rw [h1.2.2.1.1, hL0]
      refine xCall_of (m_letterOf (d := d - 1) (by omega) hns hil) (by omega) ?_
      rintro r μ' ⟨rfl, rfl⟩
      have e : ltAt ns i = nI (96 + ns[i]) := by simp only [ltAt, hx]
      refine ⟨_, rfl, hsh.1, ?_⟩
      rw [e]
      refine xCall_of (m_says (d := d - 1) (by omega) hs h1 (by rw [List.length_append, nmT, List.length_map, List.length_take]; omega)) (by omega) ?_
      rintro r μ2 ⟨rfl, h2⟩
      refine ⟨rfl, ?_⟩
      rw [nI_1]
      refine ih (i + 1) (by omega) _ ?_
      rw [tk_some hx, nmT_app, ← List.append_assoc]
      exact h2
  exact key ns.length 0 (by omega) μ (by rw [List.take_zero]; show sayP μ0 m X (l ++ []) μ; rw [List.append_nil]; exact h)
theorem hopT_len {nmF : Nat → List Nat} {q : Rc} (h1 : q.rt ≤ 1000) (h2 : q.ar ≤ 5) (h3 : nmOk (nmF q.fm)) : (hopT nmF q).length ≤ 23 := by
  have a1 := dg_len (q.rt / 10) (by omega)
  have a2 := dg_len (q.rt % 10) (by omega)
  have a3 := dg_len q.ar (by omega)
  have a4 := h3.2.1
  unfold hopT
  simp only [List.length_append, nmT, List.length_map, List.length_cons, List.length_nil]
  have b1 : (if q.rt % 10 = 0 then ([] : List Nat) else [46] ++ dg (q.rt % 10)).length ≤ 4 := by
    split
    · simp
    · rw [List.length_append, List.length_singleton]; omega
  have b2 : (if q.ar = 0 then ([] : List Nat) else [33] ++ dg q.ar).length ≤ 4 := by
    split
    · simp
    · rw [List.length_append, List.length_singleton]; omega
  omega
theorem m_spells {u nf : Nat} {rs : List Rc} {nmF : Nat → List Nat} (hd : 5 ≤ d) (hs : mSh μ m X) (hj : mInj X) (hu : u < nf) (hnf : nf ≤ 8) (hl5 : rs.length ≤ 5) (hn : hI μ m 50 = nI rs.length) (hw0 : hI μ (X 43) 0 = nI u) (hrs : ∀ j q, rs[j]? = some q → (q.fm < nf ∧ q.rt ≤ 1000 ∧ q.ar ≤ 5) ∧ hI μ (X 43) (j + 1) = nI q.fm ∧ hI μ (X 44) j = nI q.rt ∧ hI μ (X 45) j = nI q.ar) (hnm : ∀ j, j < nf → nmOk (nmF j) ∧ hL μ (X 18) j = lN (codM (nmF j))) : xC d yX12_spells cX12_spells 2 none 0 0 [.ref m] μ ro (fun r μ' => r = none ∧ sayP μ m X (wayT nmF u rs) μ') := by
  have h0 : sayP μ m X [] (wI μ m 64 0) := ⟨by rw [hI_wI_s, upd_s]; rfl, (fun j c hc => by cases hc), Fr.rf.w1 List.mem_cons_self, fun k hk => by rw [hI_wI_s, upd_n _ hk]⟩
  refine I_X12_spells (fun J g hr => B_X12_spells_0 g hr hs.1 (hs.r 43 0 6) (hs.s 43 0 6) ⟨vp_in_nI (n := 0) (by omega) (by omega), ?_⟩)
  rw [h0.row hs hj 43, hw0]
  refine xCall_of (m_sNm (d := d - 1) (by omega) (hnm u hu).1 (by omega) (hnm u hu).2 hs h0 (by show 0 < 150; omega)) (by omega) ?_
  rintro r μ1 ⟨rfl, h1⟩
  refine ⟨rfl, ?_⟩
  have key : ∀ n i, i + n = rs.length → ∀ μ', sayP μ m X (wayT nmF u (rs.take i)) μ' → (wayT nmF u (rs.take i)).length ≤ 8 + 23 * i → J μ' 0 0 17 [(0, .ref m), (1, .int (nI i))] [] := by
    intro n
    induction n with
    | zero =>
      intro i hi μ' h2 hlen
      refine B_X12_spells_17 g hr (h2.sh hs).1 ⟨fun _ => ⟨rfl, ?_⟩, fun c => absurd (by rw [h2.2.2.2 50 (by decide), hn]; exact nI_le (by omega) (by omega)) c⟩
      rw [List.take_of_length_le (by omega)] at h2
      exact h2
    | succ n ih =>
      intro i hi μ' h2 hlen
      have hil : i < rs.length := by omega
      obtain ⟨q, hq⟩ : ∃ q, rs[i]? = some q := ⟨_, List.getElem?_eq_getElem hil⟩
      obtain ⟨⟨q1, q2, q3⟩, q4, q5, q6⟩ := hrs i q hq
      have hT := hopT_len q2 q3 (hnm _ q1).1
      have a1 := dg_len (q.rt / 10) (by omega)
      have a2 := dg_len (q.rt % 10) (by omega)
      have a3 := dg_len q.ar (by omega)
      have hi5 : i < 5 := by omega
      have nxt : ∀ l9 μ9, wayT nmF u (rs.take i) ++ hopT nmF q = l9 ++ nmT (nmF q.fm) → sayP μ m X l9 μ9 → l9.length < 150 → xCall d yX12_saysName cX12_saysName 3 none [.ref m, .int (hI μ9 (X 43) ((nI i + 1).toNatClampNeg))] μ9 ro (fun r12 μ13 => r12 = none ∧ J μ13 0 0 17 [(0, .ref m), (1, .int (nI i + 1))] []) := fun l9 μ9 he h9 hl9 => by
        rw [nI_1, nI_clamp (by omega), h9.row hs hj 43, q4]
        refine xCall_of (m_sNm (d := d - 1) (by omega) (hnm _ q1).1 (by omega) (hnm _ q1).2 hs h9 hl9) (by omega) ?_
        rintro r μz ⟨rfl, hz⟩
        refine ⟨rfl, ih (i + 1) (by omega) _ ?_ ?_⟩
        · rw [rc_some hq, wayT_one, he]; exact hz
        · rw [rc_some hq, wayT_one, List.length_append]; omega
      have k81 : ∀ l5 μ5, wayT nmF u (rs.take i) ++ hopT nmF q = l5 ++ [37] ++ (if q.ar = 0 then [] else [33] ++ dg q.ar) ++ [32] ++ nmT (nmF q.fm) → sayP μ m X l5 μ5 → l5.length < 135 → J μ5 0 0 81 [(0, .ref m), (1, .int (nI i))] [] := fun l5 μ5 he h5 hl5' => by
        refine B_X12_spells_81 g hr (h5.sh hs).1 (xCall_of (m_says (x := 37) (d := d - 1) (by omega) hs h5 (by omega)) (by omega) ?_)
        rintro r μ6 ⟨rfl, h6⟩
        have s6 := h6.sh hs
        have l6 : (l5 ++ [37]).length < 136 := by rw [List.length_append, List.length_singleton]; omega
        refine ⟨rfl, s6.1, _, s6.r 45 0 5, _, s6.s 45 0 5, vp_in_nI hi5 (by omega), ?_⟩
        rw [nI_clamp (by omega), h6.row hs hj 45, q6]
        refine ⟨fun c => ?_, fun c => ?_⟩
        · have e : q.ar = 0 := nI0 (by omega) c
          rw [if_pos e, List.append_nil] at he
          refine xCall_of (m_says (x := 32) (d := d - 1) (by omega) hs h6 (by omega)) (by omega) ?_
          rintro r μ7 ⟨rfl, h7⟩
          have s7 := h7.sh hs
          exact ⟨rfl, s7.1, _, s7.r 43 0 6, _, s7.s 43 0 6, by rw [nI_1]; exact vp_in_nI (by omega) (by omega), nxt _ _ he h7 (by rw [List.length_append, List.length_singleton]; omega)⟩
        · have e : ¬ q.ar = 0 := fun e => c (by rw [e]; rfl)
          rw [if_neg e] at he
          refine xCall_of (m_says (x := 33) (d := d - 1) (by omega) hs h6 (by omega)) (by omega) ?_
          rintro r μ7 ⟨rfl, h7⟩
          have s7 := h7.sh hs
          have l7 : (l5 ++ [37] ++ [33]).length < 137 := by rw [List.length_append, List.length_singleton]; omega
          refine ⟨rfl, s7.1, _, s7.r 45 0 5, _, s7.s 45 0 5, vp_in_nI hi5 (by omega), ?_⟩
          rw [h7.row hs hj 45, q6]
          refine xCall_of (m_num (d := d - 1) (by omega) (by omega) hs h7 (by omega)) (by omega) ?_
          rintro r μ8 ⟨rfl, h8⟩
          have l8 : (l5 ++ [37] ++ [33] ++ dg q.ar).length < 140 := by rw [List.length_append]; omega
          refine ⟨rfl, (h8.sh hs).1, xCall_of (m_says (x := 32) (d := d - 1) (by omega) hs h8 (by omega)) (by omega) ?_⟩
          rintro r μ9 ⟨rfl, h9⟩
          have s9 := h9.sh hs
          exact ⟨rfl, s9.1, _, s9.r 43 0 6, _, s9.s 43 0 6, by rw [nI_1]; exact vp_in_nI (by omega) (by omega), nxt _ _ (by rw [he]; simp only [List.append_assoc]) h9 (by rw [List.length_append, List.length_singleton]; omega)⟩
      refine B_X12_spells_17 g hr (h2.sh hs).1 ⟨fun c => absurd c (by rw [h2.2.2.2 50 (by decide), hn]; exact nI_ge (by omega) (by omega)), fun _ => xCall_of (m_says (x := 32) (d := d - 1) (by omega) hs h2 (by omega)) (by omega) ?_⟩
      rintro r μ3 ⟨rfl, h3⟩
      have l3 : (wayT nmF u (rs.take i) ++ [32]).length < 122 := by rw [List.length_append, List.length_singleton]; omega
      refine ⟨rfl, (h3.sh hs).1, xCall_of (m_says (x := 62) (d := d - 1) (by omega) hs h3 (by omega)) (by omega) ?_⟩
      rintro r μ4 ⟨rfl, h4⟩
      have s4 := h4.sh hs
      have l4 : (wayT nmF u (rs.take i) ++ [32] ++ [62]).length < 123 := by rw [List.length_append, List.length_singleton]; omega
      refine ⟨rfl, s4.1, _, s4.r 44 0 5, _, s4.s 44 0 5, vp_in_nI hi5 (by omega), ?_⟩
      rw [nI_clamp (by omega), h4.row hs hj 44, q5, (rt_ok _ q2).1]
      refine xCall_of (m_num (d := d - 1) (by omega) (by omega) hs h4 (by omega)) (by omega) ?_
      rintro r μ5 ⟨rfl, h5⟩
      have s5 := h5.sh hs
      have l5 : (wayT nmF u (rs.take i) ++ [32] ++ [62] ++ dg (q.rt / 10)).length < 126 := by rw [List.length_append]; omega
      refine ⟨rfl, s5.1, _, s5.r 44 0 5, _, s5.s 44 0 5, vp_in_nI hi5 (by omega), fun v ev => ?_⟩
      rw [h5.row hs hj 44, q5, (rt_ok _ q2).2] at ev
      subst ev
      refine ⟨fun c => ?_, fun c => ?_⟩
      · have e : q.rt % 10 = 0 := by
          rcases Nat.eq_zero_or_pos (q.rt % 10) with e | e
          · exact e
          · exact absurd c (nI_nle e (by omega))
        refine k81 _ _ ?_ h5 (by omega)
        unfold hopT
        rw [if_pos e]
        simp only [List.append_assoc, List.append_nil, List.nil_append]
        rfl
      · have e : ¬ q.rt % 10 = 0 := fun e => c (by rw [e]; decide)
        refine xCall_of (m_says (x := 46) (d := d - 1) (by omega) hs h5 (by omega)) (by omega) ?_
        rintro r μ6 ⟨rfl, h6⟩
        have s6 := h6.sh hs
        have l6 : (wayT nmF u (rs.take i) ++ [32] ++ [62] ++ dg (q.rt / 10) ++ [46]).length < 127 := by rw [List.length_append, List.length_singleton]; omega
        refine ⟨rfl, s6.1, _, s6.r 44 0 5, _, s6.s 44 0 5, vp_in_nI hi5 (by omega), fun v ev => ?_⟩
        rw [h6.row hs hj 44, q5, (rt_ok _ q2).2] at ev
        subst ev
        refine xCall_of (m_num (d := d - 1) (by omega) (by omega) hs h6 (by omega)) (by omega) ?_
        rintro r μ7 ⟨rfl, h7⟩
        refine ⟨rfl, k81 _ _ ?_ h7 (by rw [List.length_append]; omega)⟩
        unfold hopT
        rw [if_neg e]
        simp only [List.append_assoc]
        rfl
  refine key rs.length 0 (by omega) _ ?_ ?_
  · have e : wayT nmF u (rs.take 0) = [] ++ nmT (nmF u) := by unfold wayT; rw [List.take_zero, List.map_nil, List.flatten_nil, List.append_nil, List.nil_append]
    rw [e]
    exact h1
  · unfold wayT
    rw [List.take_zero, List.map_nil, List.flatten_nil, List.append_nil, nmT, List.length_map]
    have := (hnm u hu).1.2.1
    omega
theorem sayP.q {μ1 : Hp} (h : sayP μ m X l μ1) : mqFr m X μ μ1 := ⟨h.2.2.1.sub (fun a ha => by
    rcases List.mem_cons.mp ha with e | e
    · rw [e]; exact List.mem_cons_self
    · rw [List.mem_singleton.mp e]; simp), fun k hk => h.2.2.2 k hk.2.2.1⟩
theorem wayT_len {S : St} {u : Nat} (hok : sOk S) (hu : u < S.B.nf) : ∀ rs : List Rc, (∀ q ∈ rs, q.fm < S.B.nf ∧ q.rt ≤ 1000 ∧ q.ar ≤ 5) → (wayT S.nmF u rs).length ≤ 8 + 23 * rs.length
  | [], _ => by
    have := (hok.2.2.2.2.2.2.2.2.1 u hu).2.1
    unfold wayT
    rw [List.map_nil, List.flatten_nil, List.append_nil, nmT, List.length_map]
    omega
  | q :: rs, h => by
    have ih := wayT_len hok hu rs (fun r hr => h r (List.mem_cons_of_mem _ hr))
    obtain ⟨h1, h2, h3⟩ := h q List.mem_cons_self
    have hq := hopT_len h2 h3 (hok.2.2.2.2.2.2.2.2.1 q.fm h1)
    unfold wayT at ih ⊢
    rw [List.length_append] at ih ⊢
    rw [List.map_cons, List.flatten_cons, List.length_append, List.length_cons]
    omega
theorem sayP.lenW {S : St} {u : Nat} {rs : List Rc} (_ : sayP μ0 m X (wayT S.nmF u rs) μ) (hok : sOk S) (hrs : ∀ q ∈ rs, q.fm < S.B.nf ∧ q.rt ≤ 1000 ∧ q.ar ≤ 5) (hu : u < S.B.nf) (h5 : rs.length ≤ 5) : (wayT S.nmF u rs).length ≤ 160 := by
  have := wayT_len hok hu rs hrs
  omega
theorem predlt {j n : Nat} (hj : j < 2 ^ 31) (hn : n < 2 ^ 31) (h : nI n - 1 < nI j) (q : nI j < nI n) : False := by
  have h1 : j < n := Nat.lt_of_not_le fun c => nI_nlt c hj q
  have e : nI n - 1 = nI (n - 1) := by rw [show n = (n - 1) + 1 by omega]; exact nI_pred _
  rw [e] at h
  exact nI_nlt (by omega) (by omega) h
theorem predge {j n : Nat} (hj : j < 2 ^ 31) (hn : n < 2 ^ 31) (h : ¬ nI n - 1 < nI j) : j < n := by
  refine Nat.lt_of_not_le fun c => h ?_
  rcases Nat.eq_zero_or_pos n with e | e
  · subst e
    exact Int32.lt_of_lt_of_le (show nI 0 - 1 < 0 from by decide) (nI_pos' hj)
  · have e : nI n - 1 = nI (n - 1) := by rw [show n = (n - 1) + 1 by omega]; exact nI_pred _
    rw [e]
    exact nI_lt (by omega) hj
theorem m_spell {S : St} {s u t a x : Int32} (hd : 15 ≤ d) (h : mR μ m X S) (hok : sOk S) : xC d yX12_spell cX12_spell 6 (some .int) 0 0 [.ref m, .int s, .int u, .int t, .int a, .int x] μ ro (fun r μ' => mqFr m X μ μ' ∧ r = some (.int (aSpell S s u t a x))) := by
  obtain ⟨hF0, h0, n20, n22⟩ := h.1.th
  have hB := h.1.2.2.2.2.1
  have hnf := hB.1.1.2.1
  refine I_X12_spell (fun J g hr => B_X12_spell_0 g hr h.1.1.1.1 (by omega) (xCall_of (m_finds (d := d - 1) (by omega) h0) (by omega) ?_))
  rintro r μ2 ⟨hF, (⟨rfl, e⟩ | ⟨rfl, ha, w, e, hw, k1, k2, k3, k4, k5, k6, k7⟩)⟩
  · refine ⟨_, rfl, fun h => absurd rfl h, fun _ => ⟨hF0.tt hF, ?_⟩⟩
    unfold aSpell
    rw [e, onW_none]
    split <;> rfl
  · have hA : aSpell S s u t a x = if x < -1 then -1 else if x = -1 then nI (spT S s u t a w).length else if x < nI (spT S s u t a w).length then nI ((spT S s u t a w).getD (cl x) 0) else -1 := by unfold aSpell; rw [e, onW_some]
    have hF' := hF0.tt hF
    have h' := h.fr hF'
    have hs' := h'.1.1.1
    have hu := (ha.ex hnf).2.1.2
    have hD := Bk.D_ok (f := S.f) (p := -1) (q := -1) (s := s) hB h.1.2.2.2.2.2 (ha.ex hnf).2.2.1.2
    have hrs := recs_rt hD (p := cl a) k1.2.2.1
    refine ⟨_, rfl, fun _ => ⟨hs'.1, xCall_of (m_spells (d := d - 1) (rs := recs (S.B.D S.f (-1) (-1) s (cl t)) (cl u) (cl a) w) (nmF := S.nmF) (by omega) hs' h'.1.1.2 hu hnf (by rw [recs_len]; exact k1.2.1) (by rw [recs_len]; exact k2) (k3 0 _ rfl) (fun j q hq => ⟨hrs q (List.mem_of_getElem? hq), k3 (j + 1) _ (by rw [List.getElem?_cons_succ]; exact recs_get hq), (k4 j q hq).1.1, (k4 j q hq).1.2.1⟩) (fun j hj => ⟨hok.2.2.2.2.2.2.2.2.1 j hj, h'.2.2.2.1.2 j hj⟩)) (by omega) ?_⟩, fun h => absurd h (by decide)⟩
    rintro r μ3 ⟨rfl, h3⟩
    have hl3 : (wayT S.nmF (cl u) (recs (S.B.D S.f (-1) (-1) s (cl t)) (cl u) (cl a) w)).length ≤ 160 := h3.lenW hok hrs hu (by rw [recs_len]; exact k1.2.1)
    have hE := hF'.tt h3.q
    have s3 := h3.sh hs'
    replace h3 : sayP μ2 m X (spT S s u t a w) μ3 := h3
    replace hl3 : (spT S s u t a w).length ≤ 160 := hl3
    generalize spT S s u t a w = T at hA h3 hl3
    refine ⟨rfl, fun c => ⟨s3.1, fun c2 => ⟨hE, ?_⟩, fun c2 => ?_⟩, fun c => ⟨s3.1, hE, ?_⟩⟩
    · by_cases q : x < -1
      · rw [hA, if_pos q]
      · exact absurd (m1 c2 q) c
    · have c3 : ¬ x < -1 := fun q => c2 (Int32.lt_trans q (by decide))
      obtain ⟨j, hj, rfl⟩ := nI_of c2
      rw [hA, if_neg c3, if_neg c, h3.1]
      refine ⟨fun c4 => ⟨hE, ?_⟩, fun c4 => ?_⟩
      · rw [if_neg (fun q => ?_)]
        exact predlt hj (by omega) c4 q
      · have hjl : j < T.length := predge hj (by omega) c4
        obtain ⟨z, hz⟩ : ∃ z, T[j]? = some z := ⟨_, List.getElem?_eq_getElem hjl⟩
        refine ⟨_, s3.r 63 1 160, _, s3.s 63 1 160, vp_in_nI (by omega) (by omega), hE, ?_⟩
        rw [if_pos (nI_lt hjl (by omega)), nI_clamp (by omega), h3.2.1 j z hz, cl_nI hj, List.getD_eq_getElem?_getD, hz]
        rfl
    · subst c
      rw [hA, if_neg (by decide), if_pos rfl, h3.1]
end msp
