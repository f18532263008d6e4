/-! the book as the model reads it -/
def tmI (j : Nat) : Nat := if j < 8 then j + 2 else if j = 8 then 0 else if j = 9 then 1 else 10
theorem tmI_lt {j : Nat} (h : j < 11) : tmI j < 11 := by unfold tmI; split <;> (try split) <;> (try split) <;> omega
theorem tmI_inj {i j : Nat} (hi : i < 11) (hj : j < 11) (h : tmI i = tmI j) : i = j := by
  unfold tmI at h
  split at h <;> split at h <;> (try split at h) <;> (try split at h) <;> (try split at h) <;> (try split at h) <;> omega
def mPL (μ : Hp) (X : Nat → Nat) (ld : List (List Nat × (Nat → Nat))) : Prop := ∀ i x, ld[i]? = some x → hL μ (X 15) i = lN (codM x.1) ∧ ∀ j, j < 3 → hI μ (X 7) (3 * i + j) = nI (x.2 j)
def mPF (μ : Hp) (X : Nat → Nat) (fm : List (List Nat × Nat × Nat)) : Prop := ∀ i x, fm[i]? = some x → hL μ (X 17) i = lN (codM x.1) ∧ hI μ (X 9) (2 * i) = nI x.2.1 ∧ hI μ (X 9) (2 * i + 1) = nI x.2.2
def mPK (f : Nat → Int32) (lk : List (Nat × Nat × Nat × Nat × Nat)) : Prop := ∀ i x, lk[i]? = some x → f (5 * i) = nI x.1 ∧ f (5 * i + 1) = nI x.2.1 ∧ f (5 * i + 2) = nI x.2.2.1 ∧ f (5 * i + 3) = nI x.2.2.2.1 ∧ f (5 * i + 4) = nI x.2.2.2.2
def mPT (f : Nat → Int32) (tr : List (Nat → Nat)) : Prop := ∀ i x, tr[i]? = some x → ∀ j, j < 11 → f (11 * i + tmI j) = nI (x j)
def mPN (f : Nat → Int32) (P : Pb) : Prop := f 19 = nI P.ld.length ∧ f 21 = nI P.fm.length ∧ f 23 = nI P.tr.length ∧ f 25 = nI P.lk.length ∧ f 26 = nI P.yr
def mPB (μ : Hp) (m : Nat) (X : Nat → Nat) (P : Pb) : Prop := mPN (hI μ m) P ∧ mPL μ X P.ld ∧ mPF μ X P.fm ∧ mPK (hI μ (X 13)) P.lk ∧ mPT (hI μ (X 11)) P.tr
/-- what reading may change in the model -/
abbrev bI : List Nat := [7, 9, 11, 13]
def bkFr (m : Nat) (X : Nat → Nat) (μ μ' : Hp) : Prop := (hR μ' = hR μ ∧ hS μ' = hS μ) ∧ (∀ a, a ≠ m → a ∉ bI.map X → hI μ' a = hI μ a) ∧ (∀ a, a ≠ m → a ∉ [15, 17].map X → hL μ' a = hL μ a) ∧ (∀ k, k ∉ [3, 4, 5, 19, 21, 23, 25, 26] → hI μ' m k = hI μ m k) ∧ ∀ k, k ≠ 6 → hL μ' m k = hL μ m k
section mpb
variable {d : Nat} {ro : Nat → Nat} {μ μ' : Hp} {m : Nat} {X : Nat → Nat} {t : Nat → Int32} {len : Nat} {c : Cu} {P : Pb} {K : Option Value → Hp → Prop}
theorem bkFr.rf : bkFr m X μ μ := ⟨⟨rfl, rfl⟩, fun _ _ _ => rfl, fun _ _ _ => rfl, fun _ _ => rfl, fun _ _ => rfl⟩
theorem bkFr.tt {μ1 : Hp} (h : bkFr m X μ μ1) (h' : bkFr m X μ1 μ') : bkFr m X μ μ' := ⟨⟨h'.1.1.trans h.1.1, h'.1.2.trans h.1.2⟩, fun a h1 h2 => (h'.2.1 a h1 h2).trans (h.2.1 a h1 h2), fun a h1 h2 => (h'.2.2.1 a h1 h2).trans (h.2.2.1 a h1 h2), fun k hk => (h'.2.2.2.1 k hk).trans (h.2.2.2.1 k hk), fun k hk => (h'.2.2.2.2 k hk).trans (h.2.2.2.2 k hk)⟩
theorem wFr.b (h : wFr m μ μ') : bkFr m X μ μ' := ⟨h.1, fun a h1 _ => (h.2.1 a h1).1, fun a h1 _ => (h.2.1 a h1).2, fun k hk => h.2.2.1 k (fun e => hk (by rw [e]; decide)) (fun e => hk (by rw [e]; decide)) (fun e => hk (by rw [e]; decide)), h.2.2.2⟩
theorem bkFr.sh (h : bkFr m X μ μ') (hs : mSh μ m X) : mSh μ' m X := hs.of h.1.2 h.1.1
theorem bkFr.w (hs : mSh μ m X) (i k : Nat) (x : Int32) (hi : i ∈ bI ∧ i ∈ mK := by decide) : bkFr m X μ (wI μ (X i) k x) := ⟨⟨rfl, rfl⟩, fun a _ h2 => hI_wI_n _ _ _ (fun e => h2 (List.mem_map.mpr ⟨i, hi.1, e.symm⟩)), fun _ _ _ => rfl, fun k hk => by rw [hI_wI_n _ _ _ (Ne.symm (hs.ne i hi.2))], fun _ _ => rfl⟩
theorem bkFr.g (k : Nat) (x : Int32) (hk : k ∈ [3, 4, 5, 19, 21, 23, 25, 26] := by decide) : bkFr m X μ (wI μ m k x) := ⟨⟨rfl, rfl⟩, fun a h1 _ => hI_wI_n _ _ _ h1, fun _ _ _ => rfl, fun j hj => by rw [hI_wI_s, upd_n _ (fun e => hj (by rw [e]; exact hk))], fun _ _ => rfl⟩
theorem bkFr.l (hs : mSh μ m X) (i k : Nat) (x : Int64) (hi : i ∈ [15, 17] ∧ i ∈ mK := by decide) : bkFr m X μ (wL μ (X i) k x) := ⟨⟨rfl, rfl⟩, fun _ _ _ => rfl, fun a _ h2 => hL_wL_n _ _ _ (fun e => h2 (List.mem_map.mpr ⟨i, hi.1, e.symm⟩)), fun _ _ => rfl, fun k hk => by rw [hL_wL_n _ _ _ (Ne.symm (hs.ne i hi.2))]⟩
theorem mCu.fr (h : mCu μ m X t len c) (h1 : hI μ' m 2 = hI μ m 2 ∧ hI μ' m 3 = hI μ m 3 ∧ hI μ' m 4 = hI μ m 4) (h2 : hI μ' (X 1) = hI μ (X 1)) : mCu μ' m X t len c := by
  unfold mCu at h ⊢
  rw [h1.1, h1.2.1, h1.2.2, h2]
  exact h
theorem mCu.x (h : mCu μ m X t len c) (hs : mSh μ m X) (hi : mInj X) (i k : Nat) (x : Int32) (hik : i ∈ mK ∧ i ≠ 1 := by decide) : mCu (wI μ (X i) k x) m X t len c := h.fr (by rw [hI_wI_n _ _ _ (Ne.symm (hs.ne i hik.1))]; exact ⟨rfl, rfl, rfl⟩) (hI_wI_n _ _ _ (fun e => hik.2 (hi 1 i (by decide) hik.1 e).symm))
theorem mCu.g (h : mCu μ m X t len c) (hs : mSh μ m X) (k : Nat) (x : Int32) (hk : k ≠ 2 ∧ k ≠ 3 ∧ k ≠ 4 := by decide) : mCu (wI μ m k x) m X t len c := h.fr (by rw [hI_wI_s, upd_n _ (Ne.symm hk.1), upd_n _ (Ne.symm hk.2.1), upd_n _ (Ne.symm hk.2.2)]; exact ⟨rfl, rfl, rfl⟩) (hI_wI_n _ _ _ (hs.ne 1))
/-! the read book stays while the reader reads, and where its rows are written behind what counts -/
theorem mPB.fr (h : mPB μ m X P) (hs : mSh μ m X) (hF : wFr m μ μ') : mPB μ' m X P := by
  obtain ⟨a1, a2, a3, a4, a5⟩ := h
  have o : ∀ i, i ∈ mK → hI μ' (X i) = hI μ (X i) ∧ hL μ' (X i) = hL μ (X i) := fun i hi => hF.2.1 _ (hs.ne i hi)
  have w : ∀ k, k ≠ 3 → k ≠ 4 → k ≠ 5 → hI μ' m k = hI μ m k := hF.2.2.1
  refine ⟨?_, fun i x hx => ?_, fun i x hx => ?_, ?_, ?_⟩
  · unfold mPN
    rw [w 19 (by decide) (by decide) (by decide), w 21 (by decide) (by decide) (by decide), w 23 (by decide) (by decide) (by decide), w 25 (by decide) (by decide) (by decide), w 26 (by decide) (by decide) (by decide)]
    exact a1
  · rw [(o 15 (by decide)).2, (o 7 (by decide)).1]; exact a2 i x hx
  · rw [(o 17 (by decide)).2, (o 9 (by decide)).1]; exact a3 i x hx
  · rw [(o 13 (by decide)).1]; exact a4
  · rw [(o 11 (by decide)).1]; exact a5
theorem mPB.w7 {k : Nat} {y : Int32} (h : mPB μ m X P) (hs : mSh μ m X) (hi : mInj X) (hk : 3 * P.ld.length ≤ k) : mPB (wI μ (X 7) k y) m X P := by
  obtain ⟨a1, a2, a3, a4, a5⟩ := h
  refine ⟨?_, fun i x hx => ⟨(a2 i x hx).1, fun j hj => ?_⟩, fun i x hx => ?_, ?_, ?_⟩
  · rw [hI_wI_n _ _ _ (Ne.symm (hs.ne 7))]; exact a1
  · have hl : i < P.ld.length := (List.getElem?_eq_some_iff.mp hx).1
    rw [hI_wI_s, upd_n _ (by omega)]; exact (a2 i x hx).2 j hj
  · rw [hI_wI_n _ _ _ (hi.ne 9 7)]; exact a3 i x hx
  · rw [hI_wI_n _ _ _ (hi.ne 13 7)]; exact a4
  · rw [hI_wI_n _ _ _ (hi.ne 11 7)]; exact a5
theorem mPB.w9 {k : Nat} {y : Int32} (h : mPB μ m X P) (hs : mSh μ m X) (hi : mInj X) (hk : 2 * P.fm.length ≤ k) : mPB (wI μ (X 9) k y) m X P := by
  obtain ⟨a1, a2, a3, a4, a5⟩ := h
  refine ⟨?_, fun i x hx => ?_, fun i x hx => ?_, ?_, ?_⟩
  · rw [hI_wI_n _ _ _ (Ne.symm (hs.ne 9))]; exact a1
  · rw [hI_wI_n _ _ _ (hi.ne 7 9)]; exact a2 i x hx
  · have hl : i < P.fm.length := (List.getElem?_eq_some_iff.mp hx).1
    rw [hI_wI_s, upd_n _ (by omega), upd_n _ (by omega)]; exact a3 i x hx
  · rw [hI_wI_n _ _ _ (hi.ne 13 9)]; exact a4
  · rw [hI_wI_n _ _ _ (hi.ne 11 9)]; exact a5
theorem mPB.w13 {k : Nat} {y : Int32} (h : mPB μ m X P) (hs : mSh μ m X) (hi : mInj X) (hk : 5 * P.lk.length ≤ k) : mPB (wI μ (X 13) k y) m X P := by
  obtain ⟨a1, a2, a3, a4, a5⟩ := h
  refine ⟨?_, fun i x hx => ?_, fun i x hx => ?_, fun i x hx => ?_, ?_⟩
  · rw [hI_wI_n _ _ _ (Ne.symm (hs.ne 13))]; exact a1
  · rw [hI_wI_n _ _ _ (hi.ne 7 13)]; exact a2 i x hx
  · rw [hI_wI_n _ _ _ (hi.ne 9 13)]; exact a3 i x hx
  · have hl : i < P.lk.length := (List.getElem?_eq_some_iff.mp hx).1
    rw [hI_wI_s, upd_n _ (by omega), upd_n _ (by omega), upd_n _ (by omega), upd_n _ (by omega), upd_n _ (by omega)]; exact a4 i x hx
  · rw [hI_wI_n _ _ _ (hi.ne 11 13)]; exact a5
theorem mPB.w11 {k : Nat} {y : Int32} (h : mPB μ m X P) (hs : mSh μ m X) (hi : mInj X) (hk : 11 * P.tr.length ≤ k) : mPB (wI μ (X 11) k y) m X P := by
  obtain ⟨a1, a2, a3, a4, a5⟩ := h
  refine ⟨?_, fun i x hx => ?_, fun i x hx => ?_, ?_, fun i x hx j hj => ?_⟩
  · rw [hI_wI_n _ _ _ (Ne.symm (hs.ne 11))]; exact a1
  · rw [hI_wI_n _ _ _ (hi.ne 7 11)]; exact a2 i x hx
  · rw [hI_wI_n _ _ _ (hi.ne 9 11)]; exact a3 i x hx
  · rw [hI_wI_n _ _ _ (hi.ne 13 11)]; exact a4
  · have hl : i < P.tr.length := (List.getElem?_eq_some_iff.mp hx).1
    have := tmI_lt hj
    rw [hI_wI_s, upd_n _ (by omega)]; exact a5 i x hx j hj
theorem mPB.names (h : mPB μ m X P) (hp : pOk P) : (∀ i x, P.lnm[i]? = some x → ltOk x ∧ hL μ (X 15) i = lN (codM x)) ∧ ∀ i x, P.fnm[i]? = some x → ltOk x ∧ hL μ (X 17) i = lN (codM x) := by
  refine ⟨fun i x hx => ?_, fun i x hx => ?_⟩
  · unfold Pb.lnm at hx
    rw [List.getElem?_map] at hx
    obtain ⟨y, hy, e⟩ := Option.map_eq_some_iff.mp hx
    subst e
    exact ⟨(hp.2.1 y (List.mem_of_getElem? hy)).1.lt8, (h.2.1 i y hy).1⟩
  · unfold Pb.fnm at hx
    rw [List.getElem?_map] at hx
    obtain ⟨y, hy, e⟩ := Option.map_eq_some_iff.mp hx
    subst e
    exact ⟨(hp.2.2.1 y (List.mem_of_getElem? hy)).1.lt8, (h.2.2.1 i y hy).1⟩
/-! names: new ones, told ones -/
theorem k_fr (hd : 8 ≤ d) (hs : mSh μ m X) (h : mCu μ m X t len c) (hP : mPB μ m X P) (hp : pOk P)
    (hK : ∀ μ' y, mCu μ' m X t len (nwN t len P c).2 → wFr m μ μ' → ((nwN t len P c).2.1 = none → y = lN (codM (nwN t len P c).1)) → K (some (.long y)) μ') : xCall d yX12_fresh cX12_fresh 1 (some .long) [.ref m] μ ro K := by
  refine xCall_of (d' := d - 1) (Z := fun r μ' => ∃ y, r = some (.long y) ∧ mCu μ' m X t len (nwN t len P c).2 ∧ wFr m μ μ' ∧ ((nwN t len P c).2.1 = none → y = lN (codM (nwN t len P c).1))) ?_ (by omega) (by rintro r μ' ⟨y, rfl, q1, q2, q3⟩; exact hK _ _ q1 q2 q3)
  refine I_X12_fresh (fun J g hr => B_X12_fresh_0 g hr hs.1 (k_mw (by omega) hs h (fun μ1 m1 W1 v1 => ⟨rfl, ?_⟩)))
  have s1 := W1.sh hs
  have P1 := hP.fr hs W1
  have nm := P1.names hp
  have hw := nxW_lt t len c
  refine ⟨s1.1, fun q => ⟨_, rfl, ?_, W1, fun e => ?_⟩, fun q => ?_⟩
  · have hn : ¬ (nxW t len c).2.1 = none := fun z => q (m1.f4.mpr z)
    unfold nwN
    simp only
    by_cases z : nbr P.lnm (nxW t len c).1 = none ∧ nbr P.fnm (nxW t len c).1 = none ∧ nbr kwds (nxW t len c).1 = none
    · rw [if_pos z]; exact m1
    · rw [if_neg z, flC_id hn]; exact m1
  · have hn : ¬ (nxW t len c).2.1 = none := fun z => q (m1.f4.mpr z)
    unfold nwN at e
    simp only at e
    by_cases z : nbr P.lnm (nxW t len c).1 = none ∧ nbr P.fnm (nxW t len c).1 = none ∧ nbr kwds (nxW t len c).1 = none
    · rw [if_pos z] at e; exact absurd e hn
    · rw [if_neg z] at e; exact absurd e flC_n
  · have hn := m1.f4.mp q
    have hc := (nxW_nm hn).1
    obtain ⟨v5, v6⟩ := v1 hc
    rw [v6]
    have hlt : ∀ (ns : List (List Nat)) k, nbr ns (nxW t len c).1 = some k → k < ns.length := fun ns k hk => (nbr_lt hk).1
    have h6 := hp.1.1
    have h8 := hp.1.2.1
    have bad : ¬ (nbr P.lnm (nxW t len c).1 = none ∧ nbr P.fnm (nxW t len c).1 = none ∧ nbr kwds (nxW t len c).1 = none) → xCall (d - 1) yX12_fails cX12_fails 2 none [.ref m, .int (hI μ1 m 5)] μ1 ro (fun r8 μ9 => r8 = none ∧ hS μ9 m = some (15, 65) ∧ ∃ y, (some (.long (hL μ9 m 6)) : Option Value) = some (.long y) ∧ mCu μ9 m X t len (nwN t len P c).2 ∧ wFr m μ μ9 ∧ ((nwN t len P c).2.1 = none → y = lN (codM (nwN t len P c).1))) := fun z => by
      rw [v5]
      refine k_mf (by omega) s1 m1 m1.2.2.1.1 (fun μ2 m2 W2 o2 l2 => ⟨rfl, (W2.sh s1).1, _, rfl, ?_, W1.tt W2, fun e => ?_⟩)
      · unfold nwN
        simp only
        rw [if_neg z]; exact m2
      · unfold nwN at e
        simp only at e
        rw [if_neg z] at e; exact absurd e flC_n
    refine xCall_of (c_known (d := d - 2) (by omega) hw) (by omega) ?_
    rintro r μ1 ⟨rfl, rfl⟩
    refine ⟨_, rfl, ?_⟩
    cases e1 : nbr kwds (nxW t len c).1 with
    | some k =>
      have : k < 12 := hlt _ k e1
      exact ⟨fun _ => ⟨s1.1, bad (fun z => by rw [e1] at z; cases z.2.2)⟩, fun z => absurd z (oI_ne (by omega))⟩
    | none =>
      refine ⟨fun z => absurd rfl z, fun _ => ⟨s1.1, X 15, s1.r 15 2 6, ?_⟩⟩
      rw [P1.1.1, v6, ← lnm_len]
      refine xCall_of (c_spotOf (d := d - 2) (ns := P.lnm) (s1.s 15 2 6) (by rw [lnm_len]; exact h6) (by omega) hw nm.1) (by omega) ?_
      rintro r μ1 ⟨rfl, rfl⟩
      refine ⟨_, rfl, ?_⟩
      cases e2 : nbr P.lnm (nxW t len c).1 with
      | some k =>
        have := hlt _ k e2
        rw [lnm_len] at this
        exact ⟨fun _ => ⟨s1.1, bad (fun z => by rw [e2] at z; cases z.1)⟩, fun z => absurd z (oI_ne (by omega))⟩
      | none =>
        refine ⟨fun z => absurd rfl z, fun _ => ⟨s1.1, X 17, s1.r 17 2 8, ?_⟩⟩
        rw [P1.1.2.1, v6, ← fnm_len]
        refine xCall_of (c_spotOf (d := d - 2) (ns := P.fnm) (s1.s 17 2 8) (by rw [fnm_len]; exact h8) (by omega) hw nm.2) (by omega) ?_
        rintro r μ1 ⟨rfl, rfl⟩
        refine ⟨_, rfl, ?_⟩
        cases e3 : nbr P.fnm (nxW t len c).1 with
        | some k =>
          have := hlt _ k e3
          rw [fnm_len] at this
          exact ⟨fun z => absurd z (oI_ne (by omega)), fun _ => ⟨s1.1, bad (fun z => by rw [e3] at z; cases z.2.1)⟩⟩
        | none =>
          refine ⟨fun _ => ⟨s1.1, _, rfl, ?_, W1, fun _ => by rw [v6]; rfl⟩, fun z => absurd rfl z⟩
          unfold nwN
          simp only
          rw [if_pos ⟨e2, e3, e1⟩]; exact m1
/-- behind a told name: the number, or nothing that counts -/
def tdZ (m : Nat) (X : Nat → Nat) (t : Nat → Int32) (len : Nat) (c : Cu) (ns : List (List Nat)) (μ : Hp) : Option Value → Hp → Prop := fun r μ' => ∃ j, r = some (.int (nI j)) ∧ j < 100 ∧ mCu μ' m X t len (tdN t len ns none c).2 ∧ wFr m μ μ' ∧ ((tdN t len ns none c).2.1 = none → (tdN t len ns none c).1 = some j ∧ hI μ' m 5 = nI (tdN t len ns none c).2.2.1)
theorem td_fin {ns : List (List Nat)} {μ1 : Hp} (m1 : mCu μ1 m X t len (nxW t len c).2) (W1 : wFr m μ μ1) (hq : ¬ hI μ1 m 4 = -1) : tdZ m X t len c ns μ (some (.int 0)) μ1 := by
  have hn : ¬ (nxW t len c).2.1 = none := fun z => hq (m1.f4.mpr z)
  have e : (tdN t len ns none c).2 = (nxW t len c).2 := by
    unfold tdN
    simp only
    by_cases z : nbr ns (nxW t len c).1 = none ∨ nbr ns (nxW t len c).1 = none
    · rw [if_pos z, flC_id hn]
    · rw [if_neg z]
  refine ⟨0, rfl, by omega, by rw [e]; exact m1, W1, fun z => ?_⟩
  rw [e] at z
  exact absurd z hn
theorem c_aLand (hd : 6 ≤ d) (hs : mSh μ m X) (h : mCu μ m X t len c) (hP : mPB μ m X P) (hp : pOk P) : xC d yX12_aLand cX12_aLand 2 (some .int) 0 0 [.ref m] μ ro (tdZ m X t len c P.lnm μ) := by
  have h6 := hp.1.1
  refine I_X12_aLand (fun J g hr => B_X12_aLand_0 g hr hs.1 (k_mw (by omega) hs h (fun μ1 m1 W1 v1 => ⟨rfl, (W1.sh hs).1, fun q => td_fin m1 W1 q, fun q => ?_⟩)))
  have s1 := W1.sh hs
  have P1 := hP.fr hs W1
  have hn := m1.f4.mp q
  obtain ⟨v5, v6⟩ := v1 (nxW_nm hn).1
  refine ⟨X 15, s1.r 15 2 6, ?_⟩
  rw [P1.1.1, v6, ← lnm_len]
  refine xCall_of (c_spotOf (d := d - 1) (ns := P.lnm) (s1.s 15 2 6) (by rw [lnm_len]; exact h6) (by omega) (nxW_lt t len c) (P1.names hp).1) (by omega) ?_
  rintro r μ1 ⟨rfl, rfl⟩
  refine ⟨_, rfl, ?_⟩
  cases e : nbr P.lnm (nxW t len c).1 with
  | some k =>
    have hk := (nbr_lt e).1
    rw [lnm_len] at hk
    have e2 : tdN t len P.lnm none c = (some k, (nxW t len c).2) := by
      unfold tdN
      rw [e, if_neg (by simp)]
    refine ⟨fun _ => ⟨fun _ => ⟨k, rfl, by omega, by rw [e2]; exact m1, W1, fun _ => ⟨by rw [e2], by rw [e2]; exact v5⟩⟩, fun z => absurd (nI_pos' (by omega)) z⟩, fun z => absurd z (oI_ne (by omega))⟩
  | none =>
    have e2 : tdN t len P.lnm none c = (none, flC (nxW t len c).2 (nxW t len c).2.2.1) := by
      unfold tdN
      rw [e, if_pos (Or.inl rfl)]
    refine ⟨fun z => absurd rfl z, fun _ => ⟨s1.1, ?_⟩⟩
    rw [v5]
    refine k_mf (by omega) s1 m1 m1.2.2.1.1 (fun μ2 m2 W2 o2 l2 => ⟨rfl, fun z => absurd z (by decide), fun _ => ⟨0, rfl, by omega, by rw [e2]; exact m2, W1.tt W2, fun z => ?_⟩⟩)
    rw [e2] at z
    exact absurd z flC_n
theorem c_aFirm (hd : 6 ≤ d) (hs : mSh μ m X) (h : mCu μ m X t len c) (hP : mPB μ m X P) (hp : pOk P) : xC d yX12_aFirm cX12_aFirm 2 (some .int) 0 0 [.ref m] μ ro (tdZ m X t len c P.fnm μ) := by
  have h8 := hp.1.2.1
  refine I_X12_aFirm (fun J g hr => B_X12_aFirm_0 g hr hs.1 (k_mw (by omega) hs h (fun μ1 m1 W1 v1 => ⟨rfl, (W1.sh hs).1, fun q => td_fin m1 W1 q, fun q => ?_⟩)))
  have s1 := W1.sh hs
  have P1 := hP.fr hs W1
  have hn := m1.f4.mp q
  obtain ⟨v5, v6⟩ := v1 (nxW_nm hn).1
  refine ⟨X 17, s1.r 17 2 8, ?_⟩
  rw [P1.1.2.1, v6, ← fnm_len]
  refine xCall_of (c_spotOf (d := d - 1) (ns := P.fnm) (s1.s 17 2 8) (by rw [fnm_len]; exact h8) (by omega) (nxW_lt t len c) (P1.names hp).2) (by omega) ?_
  rintro r μ1 ⟨rfl, rfl⟩
  refine ⟨_, rfl, ?_⟩
  cases e : nbr P.fnm (nxW t len c).1 with
  | some k =>
    have hk := (nbr_lt e).1
    rw [fnm_len] at hk
    have e2 : tdN t len P.fnm none c = (some k, (nxW t len c).2) := by
      unfold tdN
      rw [e, if_neg (by simp)]
    refine ⟨fun _ => ⟨fun _ => ⟨k, rfl, by omega, by rw [e2]; exact m1, W1, fun _ => ⟨by rw [e2], by rw [e2]; exact v5⟩⟩, fun z => absurd (nI_pos' (by omega)) z⟩, fun z => absurd z (oI_ne (by omega))⟩
  | none =>
    have e2 : tdN t len P.fnm none c = (none, flC (nxW t len c).2 (nxW t len c).2.2.1) := by
      unfold tdN
      rw [e, if_pos (Or.inl rfl)]
    refine ⟨fun z => absurd rfl z, fun _ => ⟨s1.1, ?_⟩⟩
    rw [v5]
    refine k_mf (by omega) s1 m1 m1.2.2.1.1 (fun μ2 m2 W2 o2 l2 => ⟨rfl, fun z => absurd z (by decide), fun _ => ⟨0, rfl, by omega, by rw [e2]; exact m2, W1.tt W2, fun z => ?_⟩⟩)
    rw [e2] at z
    exact absurd z flC_n
end mpb
