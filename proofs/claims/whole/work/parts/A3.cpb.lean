/-! the class's draft: the book 45 with its rows 46 to 50, what acts change in 36 -/
def cPL (μ : Hp) (A : Nat → Nat) (ld : List (List Nat × (Nat → Nat))) : Prop := ∀ i x, ld[i]? = some x → hL μ (A 46) i = lN (codC x.1) ∧ ∀ j, j < 3 → hI μ (A 48) (6 * j + i) = nI (x.2 j)
def cPF (μ : Hp) (A : Nat → Nat) (fm : List (List Nat × Nat × Nat)) : Prop := ∀ i x, fm[i]? = some x → hL μ (A 47) i = lN (codC x.1) ∧ hI μ (A 49) i = nI x.2.1 ∧ hI μ (A 36) (2 + i) = nI x.2.2
def cPK (f : Nat → Int32) (lk : List (Nat × Nat × Nat × Nat × Nat)) : Prop := f 1 = nI lk.length ∧ ∀ i x, lk[i]? = some x → f (32 + i) = nI x.1 ∧ f (48 + i) = nI x.2.1 ∧ f (64 + i) = nI x.2.2.1 ∧ f (80 + i) = nI x.2.2.2.1 ∧ f (96 + i) = nI x.2.2.2.2
def cPT (f : Nat → Int32) (tr : List (Nat → Nat)) : Prop := ∀ i x, tr[i]? = some x → ∀ j, j < 11 → f (12 * j + i) = nI (x j)
def cPN (f : Nat → Int32) (P : Pb) : Prop := f 5 = nI P.ld.length ∧ f 6 = nI P.fm.length ∧ f 7 = nI P.tr.length ∧ f 8 = if P.tl = true then 1 else 0
def cPB (μ : Hp) (A : Nat → Nat) (P : Pb) : Prop := cPN (hI μ (A 45)) P ∧ cPL μ A P.ld ∧ cPF μ A P.fm ∧ cPK (hI μ (A 36)) P.lk ∧ cPT (hI μ (A 50)) P.tr ∧ hI μ (A 36) 0 = nI P.yr ∧ ∀ j, 2 ≤ j → j < 32 → j < 2 + P.fm.length ∨ hI μ (A 36) j = 0
/-- what reading a book may change -/
abbrev dI : List Nat := [1, 36, 45, 48, 49, 50]
def dFr (A : Nat → Nat) (μ μ' : Hp) : Prop := (hR μ' = hR μ ∧ hS μ' = hS μ) ∧ (∀ a, a ∉ dI.map A → hI μ' a = hI μ a) ∧ (∀ a, a ∉ [46, 47].map A → hL μ' a = hL μ a) ∧ ∀ j, 112 ≤ j → hI μ' (A 36) j = hI μ (A 36) j
section cpb
variable {d : Nat} {ro : Nat → Nat} {μ μ' : Hp} {A : Nat → Nat} {t : Nat → Int32} {len : Nat} {c : Cu} {K : Option Value → Hp → Prop} {P : Pb}
theorem dFr.rf : dFr A μ μ := ⟨⟨rfl, rfl⟩, fun _ _ => rfl, fun _ _ => rfl, fun _ _ => rfl⟩
theorem dFr.tt {μ1 : Hp} (h : dFr A μ μ1) (h' : dFr A μ1 μ') : dFr A μ μ' := ⟨⟨h'.1.1.trans h.1.1, h'.1.2.trans h.1.2⟩, fun a ha => (h'.2.1 a ha).trans (h.2.1 a ha), fun a ha => (h'.2.2.1 a ha).trans (h.2.2.1 a ha), fun j hj => (h'.2.2.2 j hj).trans (h.2.2.2 j hj)⟩
theorem dFr.sh (h : dFr A μ μ') (hs : cSh μ A) : cSh μ' A := hs.of h.1.2 h.1.1
theorem dFr.o (h : dFr A μ μ') (hj : cInj A) (i : Nat) (hi : i < 51 ∧ i ∉ dI := by decide) : hI μ' (A i) = hI μ (A i) := h.2.1 _ (fun hm => by
  obtain ⟨k, hk, e⟩ := List.mem_map.mp hm
  have hk51 : k < 51 := by
    simp only [List.mem_cons, List.not_mem_nil, or_false] at hk
    omega
  have := hj k i hk51 hi.1 e
  subst this
  exact hi.2 hk)
theorem Fr1_d (h : Fr ([1].map A) μ μ') (hj : cInj A) : dFr A μ μ' := ⟨⟨h.2.1, h.2.2.1⟩, fun a ha => h.2.2.2 a (fun q => ha (by simp only [List.map_cons, List.map_nil, List.mem_singleton] at q; rw [q]; exact List.mem_map.mpr ⟨1, by decide, rfl⟩)), fun a _ => by rw [h.1], fun j _ => by rw [h.o hj 36]⟩
theorem dFr.w (hj : cInj A) (i k : Nat) (x : Int32) (hi : i ∈ dI ∧ i < 51 ∧ (i ≠ 36 ∨ k < 112)) : dFr A μ (wI μ (A i) k x) := ⟨⟨rfl, rfl⟩, fun a ha => hI_wI_n _ _ _ (fun e => ha (List.mem_map.mpr ⟨i, hi.1, e.symm⟩)), fun _ _ => rfl, fun j hj1 => by
  by_cases e : i = 36
  · subst e
    rw [hI_wI_s, upd_n _ (by omega)]
  · rw [hI_wI_n _ _ _ (fun q => e (hj 36 i (by decide) hi.2.1 q).symm)]⟩
theorem dFr.l (i k : Nat) (x : Int64) (hi : i ∈ [46, 47]) : dFr A μ (wL μ (A i) k x) := ⟨⟨rfl, rfl⟩, fun _ _ => rfl, fun a ha => va_up_ne _ _ (fun e => ha (List.mem_map.mpr ⟨i, hi, e.symm⟩)), fun _ _ => rfl⟩
theorem hL_wL_n (μ : Hp) {a b : Nat} (k : Nat) (x : Int64) (h : b ≠ a) : hL (wL μ a k x) b = hL μ b := va_up_ne _ _ h
/-! the draft stays while the reader reads, and where its rows are written behind what counts -/
theorem cPB.fr (h : cPB μ A P) (hj : cInj A) (hF : Fr ([1].map A) μ μ') : cPB μ' A P := by
  unfold cPB cPL cPF at h ⊢
  rw [hF.1, hF.o hj 45, hF.o hj 48, hF.o hj 49, hF.o hj 36, hF.o hj 50]
  exact h
theorem cPB.l46 {y : Int64} (h : cPB μ A P) (hj : cInj A) : cPB (wL μ (A 46) P.ld.length y) A P := by
  obtain ⟨a1, a2, a3, a4⟩ := h
  refine ⟨a1, fun i x hx => ?_, fun i x hx => ?_, a4⟩
  · have hl : i < P.ld.length := (List.getElem?_eq_some_iff.mp hx).1
    rw [hL_wL_s, updL_n _ (by omega)]; exact a2 i x hx
  · rw [hL_wL_n _ _ _ (hj.ne 47 46)]; exact a3 i x hx
theorem cPB.l47 {y : Int64} (h : cPB μ A P) (hj : cInj A) : cPB (wL μ (A 47) P.fm.length y) A P := by
  obtain ⟨a1, a2, a3, a4⟩ := h
  refine ⟨a1, fun i x hx => ?_, fun i x hx => ?_, a4⟩
  · rw [hL_wL_n _ _ _ (hj.ne 46 47)]; exact a2 i x hx
  · have hl : i < P.fm.length := (List.getElem?_eq_some_iff.mp hx).1
    rw [hL_wL_s, updL_n _ (by omega)]; exact a3 i x hx
theorem cPB.w48 {k : Nat} {y : Int32} (h : cPB μ A P) (hj : cInj A) (hl : P.ld.length < 6) : cPB (wI μ (A 48) (6 * k + P.ld.length) y) A P := by
  obtain ⟨a1, a2, a3, a4⟩ := h
  refine ⟨?_, fun i x hx => ?_, fun i x hx => ?_, ?_⟩
  · rw [hI_wI_n _ _ _ (hj.ne 45 48)]; exact a1
  · have hi : i < P.ld.length := (List.getElem?_eq_some_iff.mp hx).1
    refine ⟨(a2 i x hx).1, fun j hj3 => ?_⟩
    rw [hI_wI_s, upd_n _ (by omega)]; exact (a2 i x hx).2 j hj3
  · rw [hI_wI_n _ _ _ (hj.ne 49 48), hI_wI_n _ _ _ (hj.ne 36 48)]; exact a3 i x hx
  · rw [hI_wI_n _ _ _ (hj.ne 36 48), hI_wI_n _ _ _ (hj.ne 50 48)]; exact a4
theorem cPB.w49 {y : Int32} (h : cPB μ A P) (hj : cInj A) : cPB (wI μ (A 49) P.fm.length y) A P := by
  obtain ⟨a1, a2, a3, a4⟩ := h
  refine ⟨?_, fun i x hx => ?_, fun i x hx => ?_, ?_⟩
  · rw [hI_wI_n _ _ _ (hj.ne 45 49)]; exact a1
  · rw [hI_wI_n _ _ _ (hj.ne 48 49)]; exact a2 i x hx
  · have hi : i < P.fm.length := (List.getElem?_eq_some_iff.mp hx).1
    rw [hI_wI_s, upd_n _ (by omega), hI_wI_n _ _ _ (hj.ne 36 49)]; exact a3 i x hx
  · rw [hI_wI_n _ _ _ (hj.ne 36 49), hI_wI_n _ _ _ (hj.ne 50 49)]; exact a4
theorem cPB.w50 {k : Nat} {y : Int32} (h : cPB μ A P) (hj : cInj A) (hl : P.tr.length < 12) : cPB (wI μ (A 50) (12 * k + P.tr.length) y) A P := by
  obtain ⟨a1, a2, a3, a4, a5, a6⟩ := h
  refine ⟨?_, fun i x hx => ?_, fun i x hx => ?_, ?_, fun i x hx j hj11 => ?_, ?_⟩
  · rw [hI_wI_n _ _ _ (hj.ne 45 50)]; exact a1
  · rw [hI_wI_n _ _ _ (hj.ne 48 50)]; exact a2 i x hx
  · rw [hI_wI_n _ _ _ (hj.ne 49 50), hI_wI_n _ _ _ (hj.ne 36 50)]; exact a3 i x hx
  · rw [hI_wI_n _ _ _ (hj.ne 36 50)]; exact a4
  · have hi : i < P.tr.length := (List.getElem?_eq_some_iff.mp hx).1
    rw [hI_wI_s, upd_n _ (by omega)]; exact a5 i x hx j hj11
  · rw [hI_wI_n _ _ _ (hj.ne 36 50)]; exact a6
theorem cPB.names (h : cPB μ A P) (hp : pOk P) : (∀ i x, P.lnm[i]? = some x → ltOk x ∧ hL μ (A 46) i = lN (codC x)) ∧ ∀ i x, P.fnm[i]? = some x → ltOk x ∧ hL μ (A 47) i = lN (codC x) := by
  refine ⟨fun i x hx => ?_, fun i x hx => ?_⟩
  · unfold Pb.lnm at hx
    rw [List.getElem?_map] at hx
    obtain ⟨y, hy, e⟩ := Option.map_eq_some_iff.mp hx
    subst e
    exact ⟨(hp.2.1 y (List.mem_of_getElem? hy)).1.lt8, (h.2.1 i y hy).1⟩
  · unfold Pb.fnm at hx
    rw [List.getElem?_map] at hx
    obtain ⟨y, hy, e⟩ := Option.map_eq_some_iff.mp hx
    subst e
    exact ⟨(hp.2.2.1 y (List.mem_of_getElem? hy)).1.lt8, (h.2.2.1 i y hy).1⟩
theorem lnm_len : P.lnm.length = P.ld.length := List.length_map _
theorem fnm_len : P.fnm.length = P.fm.length := List.length_map _
/-! told names, new names -/
theorem k_td {a N : Nat} {ns : List (List Nat)} {un : Option Nat} {x : Int32} (hd : 3 ≤ d) (hs : cSh μ A) (hj : cInj A) (h : rdR μ A t len c) (ha : hS μ a = some (2, N)) (hN : ns.length ≤ N) (hN2 : N < 100) (hx : x = nI ns.length) (hn : ∀ i x, ns[i]? = some x → ltOk x ∧ hL μ a i = lN (codC x)) (hu : ∀ k, un = some k → k < 100)
    (hK : ∀ μ', rdR μ' A t len (tdN t len ns un c).2 → Fr ([1].map A) μ μ' → K (some (.int (oI (tdN t len ns un c).1))) μ') : xCall d yX2_toldName cX2_toldName 5 (some .int) [.ref (A 1), .ref a, .int x, .int (oI un)] μ ro K := by
  subst hx
  refine xCall_of (d' := d - 1) (Z := fun r μ' => r = some (.int (oI (tdN t len ns un c).1)) ∧ rdR μ' A t len (tdN t len ns un c).2 ∧ Fr ([1].map A) μ μ') (I_X2_toldName (fun J g hr => B_X2_toldName_0 g hr (hs.s 1 10 5) (k_nw (by omega) hs hj h (fun μ1 r1 F1 => ⟨_, rfl, ?_⟩)))) (by omega) (by rintro r μ' ⟨rfl, h1, h2⟩; exact hK _ h1 h2)
  have s1 := hs.fr F1
  refine xCall_of (c_numberOf (d := d - 2) (ns := ns) (by rw [F1.2.2.1]; exact ha) hN hN2 (nxW_lt t len c) (by rw [F1.1]; exact hn)) (by omega) ?_
  rintro r μ2 ⟨rfl, rfl⟩
  refine ⟨_, rfl, ?_⟩
  have hlt : ∀ k, nbr ns (nxW t len c).1 = some k → k < 100 := fun k hk => by have := (nbr_lt hk).1; omega
  unfold tdN at hr ⊢
  generalize nbr ns (nxW t len c).1 = o at hr hlt ⊢
  cases o with
  | none =>
    refine ⟨fun _ => ⟨s1.s 1 10 5, k_flS (by omega) s1 hj r1 (fun μ3 r3 F3 => ⟨rfl, rfl, ?_, F1.tt F3⟩)⟩, fun q => absurd rfl q⟩
    rw [if_pos (Or.inl rfl)]; exact r3
  | some k =>
    have hk := hlt k rfl
    refine ⟨fun q => absurd q (oI_ne (by omega)), fun _ => ⟨fun q => ⟨rfl, ?_, F1⟩, fun q => ⟨s1.s 1 10 5, k_flS (by omega) s1 hj r1 (fun μ3 r3 F3 => ⟨rfl, rfl, ?_, F1.tt F3⟩)⟩⟩⟩
    · rw [if_neg]
      · exact r1
      · rintro (q1 | q1)
        · cases q1
        · exact q (by rw [q1])
    · have : some k = un := by
        cases un with
        | none => exact absurd q (oI_ne (by omega))
        | some k2 =>
          have h2 := hu k2 rfl
          have : k = k2 := (nI_eq (by omega) (by omega)).mp q
          rw [this]
      rw [if_pos (Or.inr this)]; exact r3
theorem k_nwN (hd : 3 ≤ d) (hs : cSh μ A) (hj : cInj A) (h : rdR μ A t len c) (hP : cPB μ A P) (hp : pOk P)
    (hK : ∀ μ', rdR μ' A t len (nwN t len P c).2 → Fr ([1].map A) μ μ' → K (some (.long (lN (codC (nwN t len P c).1)))) μ') : xCall d yX2_newName cX2_newName 5 (some .long) [.ref (A 45), .ref (A 1)] μ ro K := by
  refine xCall_of (d' := d - 1) (Z := fun r μ' => r = some (.long (lN (codC (nwN t len P c).1))) ∧ rdR μ' A t len (nwN t len P c).2 ∧ Fr ([1].map A) μ μ') (I_X2_newName (fun J g hr => B_X2_newName_0 g hr (hs.s 1 10 5) (k_nw (by omega) hs hj h (fun μ1 r1 F1 => ⟨_, rfl, ?_⟩)))) (by omega) (by rintro r μ' ⟨rfl, h1, h2⟩; exact hK _ h1 h2)
  have s1 := hs.fr F1
  have P1 := hP.fr hj F1
  have nm := P1.names hp
  have hw := nxW_lt t len c
  unfold nwN at hr ⊢
  have bad : ¬ (nbr P.lnm (nxW t len c).1 = none ∧ nbr P.fnm (nxW t len c).1 = none ∧ nbr kwds (nxW t len c).1 = none) → J μ1 0 0 56 [(1, .ref (A 1)), (2, .long (lN (codC (nxW t len c).1)))] [] := fun q => by
    rw [if_neg q] at hr
    exact B_X2_newName_56 g hr (s1.s 1 10 5) (k_flS (by omega) s1 hj r1 (fun μ3 r3 F3 => ⟨rfl, rfl, r3, F1.tt F3⟩))
  refine ⟨s1.s 45 6 9, _, s1.r 45 0 46, ?_⟩
  rw [P1.1.1, ← lnm_len]
  refine xCall_of (c_numberOf (d := d - 2) (ns := P.lnm) (s1.s 46 2 6) (by rw [lnm_len]; exact hp.1.1) (by omega) hw nm.1) (by omega) ?_
  rintro r μ2 ⟨rfl, rfl⟩
  refine ⟨_, rfl, ?_⟩
  have hlt : ∀ (ns : List (List Nat)) k, nbr ns (nxW t len c).1 = some k → k < ns.length := fun ns k hk => (nbr_lt hk).1
  have h6 := hp.1.1
  have h8 := hp.1.2.1
  cases e1 : nbr P.lnm (nxW t len c).1 with
  | some k =>
    have := hlt _ k e1
    rw [lnm_len] at this
    exact ⟨fun _ => bad (fun q => by rw [e1] at q; cases q.1), fun q => absurd q (oI_ne (by omega))⟩
  | none =>
    refine ⟨fun q => absurd rfl q, fun _ => ⟨s1.s 45 6 9, _, s1.r 45 1 47, ?_⟩⟩
    rw [P1.1.2.1, ← fnm_len]
    refine xCall_of (c_numberOf (d := d - 2) (ns := P.fnm) (s1.s 47 2 8) (by rw [fnm_len]; exact hp.1.2.1) (by omega) hw nm.2) (by omega) ?_
    rintro r μ2 ⟨rfl, rfl⟩
    refine ⟨_, rfl, ?_⟩
    cases e2 : nbr P.fnm (nxW t len c).1 with
    | some k =>
      have := hlt _ k e2
      rw [fnm_len] at this
      exact ⟨fun q => absurd q (oI_ne (by omega)), fun _ => bad (fun q => by rw [e2] at q; cases q.2.1)⟩
    | none =>
      refine ⟨fun _ => xCall_of (c_withCode (d := d - 2) hw) (by omega) ?_, fun q => absurd rfl q⟩
      rintro r μ2 ⟨rfl, rfl⟩
      refine ⟨_, rfl, fun q => ?_, fun i q => ?_⟩
      · refine ⟨rfl, ?_, F1⟩
        rw [if_pos ⟨rfl, rfl, q⟩]; exact r1
      · exact ⟨hlt kwds i q, bad (fun q' => by rw [q] at q'; cases q'.2.2)⟩
end cpb
