/-! the class's reader by cursors -/
def rdR (μ : Hp) (A : Nat → Nat) (t : Nat → Int32) (len : Nat) (c : Cu) : Prop := (hI μ (A 1) 0 = nI len ∧ hI μ (A 1) 1 = oI c.1 ∧ hI μ (A 1) 2 = nI c.2.1 ∧ hI μ (A 1) 3 = nI c.2.2) ∧ len ≤ 400 ∧ cuOk len c ∧ ∀ i, i < len → hI μ (A 2) i = t i
theorem cSh.rd {μ : Hp} {A : Nat → Nat} (h : cSh μ A) : isRd μ (A 1) (A 2) := ⟨h.s 1 10 5, h.r 1 4 2, h.s 2 0 400⟩
theorem skE_c {f t : Nat → Int32} {len at_ : Nat} (h : ∀ i, i < len → f i = t i) : skE f len at_ = skE t len at_ := runE_congr _ _ (fun j h1 h2 => by unfold isB; rw [h j (by omega)])
theorem wdE_c {f t : Nat → Int32} {len at_ : Nat} (h : ∀ i, i < len → f i = t i) : wdE f len at_ = wdE t len at_ := by
  unfold wdE
  rw [skE_c h]
  exact runE_congr _ _ (fun j h1 h2 => by unfold isLt; rw [h j (by omega)])
theorem dgE_c {f t : Nat → Int32} {len at_ : Nat} (h : ∀ i, i < len → f i = t i) : dgE f len at_ = dgE t len at_ := by
  unfold dgE
  rw [skE_c h]
  exact runE_congr _ _ (fun j h1 h2 => by unfold isDg; rw [h j (by omega)])
theorem cdC_c {f t : Nat → Int32} {len s : Nat} (h : ∀ i, i < len → f i = t i) : ∀ m, s + m ≤ len → cdC f s m = cdC t s m
  | 0, _ => rfl
  | m + 1, hm => by unfold cdC; rw [cdC_c h m (by omega), h (s + m) (by omega)]
theorem nmC_c {f t : Nat → Int32} {len s : Nat} (h : ∀ i, i < len → f i = t i) : ∀ m, s + m ≤ len → nmC f s m = nmC t s m
  | 0, _ => rfl
  | m + 1, hm => by unfold nmC; rw [nmC_c h m (by omega), h (s + m) (by omega)]
theorem nmV_c {f t : Nat → Int32} {len at_ : Nat} (ha : at_ ≤ len) (h : ∀ i, i < len → f i = t i) : nmV f len at_ = nmV t len at_ := by
  unfold nmV
  have h1 := dgE_ge t len at_
  have h2 := dgE_le t ha
  rw [dgE_c h, skE_c h]
  exact nmC_c h _ (by omega)
theorem wd_cd {t : Nat → Int32} {len at_ : Nat} : cdC t (skE t len at_) (wdE t len at_ - skE t len at_) = lN (codC (ltrs t (skE t len at_) (min (wdE t len at_ - skE t len at_) 8))) :=
  cdC_eq _ (fun i hi => runE_all (isLt t) (len - skE t len at_) (skE t len at_) _ (by omega) (by have : skE t len at_ + i < wdE t len at_ := by omega
                                                                                                 exact this))
section rdc
variable {d : Nat} {ro : Nat → Nat} {μ : Hp} {A : Nat → Nat} {t : Nat → Int32} {len : Nat} {c : Cu} {K : Option Value → Hp → Prop}
theorem rdR.fr {μ' : Hp} (h : rdR μ A t len c) (h1 : hI μ' (A 1) = hI μ (A 1)) (h2 : hI μ' (A 2) = hI μ (A 2)) : rdR μ' A t len c := by
  unfold rdR at h ⊢
  rw [h1, h2]
  exact h
theorem rdR.x {s e : Nat} (h : rdR μ A t len c) (hj : cInj A) (hn : c.1 = none) (hs : s ≤ len) (he : e ≤ len) (bad : Prop) [Decidable bad] : rdR (wRow μ (A 1) (rdX (hI μ (A 1)) e s bad)) A t len ((if bad then some s else none), s, e) := by
  obtain ⟨⟨h0, h1, h2, h3⟩, h4, h5, h6⟩ := h
  unfold rdR
  rw [hI_wRow_s, hI_wRow_n _ _ (hj.ne 2 1)]
  rw [hn] at h1
  by_cases q : bad
  · unfold rdX
    simp only [if_pos q]
    refine ⟨⟨by rw [upd_n _ (by decide), rdF_0]; exact h0, by rw [upd_s]; rfl, by rw [upd_n _ (by decide), rdF_2], by rw [upd_n _ (by decide), rdF_3]⟩, h4, ⟨hs, he, fun p hp => ?_⟩, h6⟩
    cases hp; exact hs
  · unfold rdX
    simp only [if_neg q]
    exact ⟨⟨by rw [rdF_0]; exact h0, by rw [rdF_1]; exact h1, rdF_2 _ _ _, rdF_3 _ _ _⟩, h4, ⟨hs, he, fun p hp => by cases hp⟩, h6⟩
theorem rdR.f1 (h : rdR μ A t len c) : hI μ (A 1) 1 = -1 ↔ c.1 = none := by
  rw [h.1.2.1]
  cases e : c.1 with
  | none => exact ⟨fun _ => rfl, fun _ => rfl⟩
  | some p =>
    have := h.2.2.1.2.2 p e
    have := h.2.1
    exact ⟨fun q => absurd q (oI_ne (by omega)), fun q => by cases q⟩
theorem k_nw (hd : 2 ≤ d) (hs : cSh μ A) (hj : cInj A) (h : rdR μ A t len c) (hK : ∀ μ', rdR μ' A t len (nxW t len c).2 → Fr ([1].map A) μ μ' → K (some (.long (lN (codC (nxW t len c).1)))) μ') : xCall d yX6_nextWord cX6_nextWord 3 (some .long) [.ref (A 1)] μ ro K := by
  by_cases e : c.1 = none
  · have h1 := h.f1.mpr e
    have ⟨⟨h0, _, h2, h3⟩, h4, h5, h6⟩ := h
    refine xCall_of (c_nextWord (d := d - 1) (by omega) hs.rd h0 h4 h3 h5.2.1 h1) (by omega) ?_
    rintro r μ' ⟨rfl, rfl⟩
    have hw := wdE_le t h5.2.1
    have hg := wdE_ge t len c.2.2
    rw [wdE_c h6, skE_c h6, cdC_c h6 _ (by omega), wd_cd]
    unfold nxW at hK
    rw [if_pos e] at hK
    exact hK _ (h.x hj e (skE_le t h5.2.1) hw _) (Fr.row (by simp))
  · have h1 := fun q => e (h.f1.mp q)
    refine xCall_of (I_X6_nextWord (d := d - 1) (Z := fun r μ' => r = some (.long 0) ∧ μ' = μ) (fun J g hr => B_X6_nextWord_0 g hr (hs.s 1 10 5) ⟨fun q => absurd q h1, fun _ => ⟨rfl, rfl⟩⟩)) (by omega) ?_
    rintro r μ' ⟨rfl, rfl⟩
    unfold nxW at hK
    rw [if_neg e] at hK
    exact hK _ h Fr.rf
theorem k_nn {lo hi : Nat} (hd : 2 ≤ d) (hs : cSh μ A) (hj : cInj A) (h : rdR μ A t len c) (hlo : lo ≤ 1000000) (hhi : hi < 1000000) (hK : ∀ μ', rdR μ' A t len (nxN t len lo hi c).2 → Fr ([1].map A) μ μ' → K (some (.int (nI (nxN t len lo hi c).1))) μ') : xCall d yX6_nextNumber cX6_nextNumber 4 (some .int) [.ref (A 1), .int (nI lo), .int (nI hi)] μ ro K := by
  by_cases e : c.1 = none
  · have h1 := h.f1.mpr e
    have ⟨⟨h0, _, h2, h3⟩, h4, h5, h6⟩ := h
    refine xCall_of (c_nextNumber (d := d - 1) (by omega) hs.rd h0 h4 h3 h5.2.1 h1 hlo hhi) (by omega) ?_
    have hw := dgE_le t h5.2.1
    have hg := dgE_ge t len c.2.2
    unfold nmBad
    rw [dgE_c h6, skE_c h6, nmV_c h5.2.1 h6]
    rintro r μ' ⟨rfl, rfl⟩
    unfold nxN at hK
    rw [if_pos e] at hK
    exact hK _ (h.x hj e (skE_le t h5.2.1) hw _) (Fr.row (by simp))
  · have h1 := fun q => e (h.f1.mp q)
    refine xCall_of (I_X6_nextNumber (d := d - 1) (Z := fun r μ' => r = some (.int (nI lo)) ∧ μ' = μ) (fun J g hr => B_X6_nextNumber_0 g hr (hs.s 1 10 5) ⟨fun q => absurd q h1, fun _ => ⟨rfl, rfl⟩⟩)) (by omega) ?_
    rintro r μ' ⟨rfl, rfl⟩
    unfold nxN at hK
    rw [if_neg e] at hK
    exact hK _ h Fr.rf
theorem k_fl {x : Nat} (hd : 1 ≤ d) (hs : cSh μ A) (hj : cInj A) (h : rdR μ A t len c) (hx : x ≤ len) (hK : ∀ μ', rdR μ' A t len (flC c x) → Fr ([1].map A) μ μ' → K none μ') : xCall d yX6_fail cX6_fail 2 none [.ref (A 1), .int (nI x)] μ ro K := by
  refine xCall_of (c_fail (d := d - 1) hs.rd) (by omega) ?_
  rintro r μ' ⟨rfl, rfl⟩
  unfold flC at hK
  by_cases e : c.1 = none
  · have h1 := h.f1.mpr e
    have ⟨⟨h0, _, h2, h3⟩, h4, h5, h6⟩ := h
    rw [if_pos h1]
    rw [if_pos e] at hK
    refine hK _ ⟨⟨?_, ?_, ?_, ?_⟩, h4, ⟨h5.1, h5.2.1, fun p hp => by cases hp; exact hx⟩, ?_⟩ (Fr.wi (by simp))
    · rw [hI_wI_s, upd_n _ (by decide)]; exact h0
    · rw [hI_wI_s, upd_s]; rfl
    · rw [hI_wI_s, upd_n _ (by decide)]; exact h2
    · rw [hI_wI_s, upd_n _ (by decide)]; exact h3
    · rw [hI_wI_n _ _ _ (hj.ne 2 1)]; exact h6
  · rw [if_neg (fun q => e (h.f1.mp q))]
    rw [if_neg e] at hK
    exact hK _ h Fr.rf
theorem k_flS (hd : 1 ≤ d) (hs : cSh μ A) (hj : cInj A) (h : rdR μ A t len c) (hK : ∀ μ', rdR μ' A t len (flC c c.2.1) → Fr ([1].map A) μ μ' → K none μ') : xCall d yX6_fail cX6_fail 2 none [.ref (A 1), .int (hI μ (A 1) 2)] μ ro K := by
  rw [h.1.2.2.1]
  exact k_fl hd hs hj h h.2.2.1.1 hK
theorem k_go (hd : 2 ≤ d) (hs : cSh μ A) (hj : cInj A) (h : rdR μ A t len c) (hK : ∀ μ', rdR μ' A t len (goC t len c).2 → Fr ([1].map A) μ μ' → K (some (.int (if (goC t len c).1 = true then 1 else 0))) μ') : xCall d yX6_goesOn cX6_goesOn 1 (some .boolean) [.ref (A 1)] μ ro K := by
  have hok := goC_ok (t := t) h.2.2.1
  by_cases e : c.1 = none
  · have h1 := h.f1.mpr e
    have ⟨⟨h0, h1', h2, h3⟩, h4, h5, h6⟩ := h
    refine xCall_of (c_goesOn (d := d - 1) (by omega) hs.rd h0 h4 h3 h5.2.1 h1) (by omega) ?_
    rw [skE_c h6]
    rintro r μ' ⟨rfl, rfl⟩
    unfold goC at hK hok
    unfold goF
    rw [if_pos e] at hK hok
    have hsl := skE_le t h5.2.1
    by_cases e2 : skE t len c.2.2 < len
    · rw [if_pos e2] at hK hok ⊢
      rw [h6 _ e2]
      by_cases e3 : t (skE t len c.2.2) = 59
      · rw [if_pos e3] at hK hok ⊢
        rw [if_pos ⟨e2, e3⟩]
        refine hK _ ⟨?_, h4, hok, ?_⟩ (Fr.row (by simp))
        · rw [hI_wRow_s]
          exact ⟨by rw [rdF_0]; exact h0, by rw [rdF_1]; exact h1, rdF_2 _ _ _, rdF_3 _ _ _⟩
        · rw [hI_wRow_n _ _ (hj.ne 2 1)]; exact h6
      · rw [if_neg e3] at hK hok ⊢
        rw [if_neg (fun q => e3 q.2)]
        refine hK _ ⟨?_, h4, hok, ?_⟩ (Fr.row (by simp))
        · rw [hI_wRow_s]
          exact ⟨by rw [upd_n _ (by decide), rdF_0]; exact h0, by rw [upd_s]; rfl, by rw [upd_n _ (by decide), rdF_2], by rw [upd_n _ (by decide), rdF_3]⟩
        · rw [hI_wRow_n _ _ (hj.ne 2 1)]; exact h6
    · rw [if_neg e2] at hK hok ⊢
      rw [if_neg (fun q => e2 q.1)]
      refine hK _ ⟨?_, h4, hok, ?_⟩ (Fr.row (by simp))
      · rw [hI_wRow_s]
        exact ⟨by rw [rdF_0]; exact h0, by rw [rdF_1]; exact h1, rdF_2 _ _ _, rdF_3 _ _ _⟩
      · rw [hI_wRow_n _ _ (hj.ne 2 1)]; exact h6
  · have h1 := fun q => e (h.f1.mp q)
    refine xCall_of (I_X6_goesOn (d := d - 1) (Z := fun r μ' => r = some (.int 0) ∧ μ' = μ) (fun J g hr => B_X6_goesOn_0 g hr (hs.s 1 10 5) ⟨fun q => absurd q h1, fun _ => ⟨rfl, rfl⟩⟩)) (by omega) ?_
    rintro r μ' ⟨rfl, rfl⟩
    unfold goC at hK
    rw [if_neg e] at hK
    exact hK _ h Fr.rf
/-! names -/
theorem c_numberOf {a N : Nat} {ns : List (List Nat)} {w : List Nat} (hs : hS μ a = some (2, N)) (hN : ns.length ≤ N) (hN2 : N < 100) (hw : ltOk w) (h : ∀ i x, ns[i]? = some x → ltOk x ∧ hL μ a i = lN (codC x)) :
    xC d yX2_numberOf cX2_numberOf 5 (some .int) 0 0 [.long (lN (codC w)), .ref a, .int (nI ns.length)] μ ro (fun r μ' => r = some (.int (oI (nbr ns w))) ∧ μ' = μ) := by
  refine I_X2_numberOf (fun J g hr => B_X2_numberOf_0 g hr ?_)
  have key : ∀ m i, i + m = ns.length → fstP (fun i => decide (ns[i]? = some w)) i m = nbr ns w → J μ 0 0 3 [(0, .long (lN (codC w))), (2, .ref a), (3, .int (nI ns.length)), (4, .int (nI i))] [] := by
    intro m
    induction m with
    | zero =>
      intro i hi he
      refine B_X2_numberOf_3 g hr hs (pk_le ns.length i (fun _ => ⟨?_, rfl⟩) (fun q => by omega))
      rw [← he]; rfl
    | succ m ih =>
      intro i hi he
      have hx : ns[i]? = some ns[i] := List.getElem?_eq_getElem (by omega)
      obtain ⟨x1, x2⟩ := h i _ hx
      refine B_X2_numberOf_3 g hr hs (pk_le ns.length i (fun q => by omega) (fun _ => ⟨vp_in_nI (by omega) (by omega), ?_⟩))
      rw [nI_clamp (by omega), x2, lg_cmp_eq, lN_inj x1 hw]
      refine ⟨fun q => ?_, fun q => ⟨?_, rfl⟩⟩
      · rw [nI_1]
        exact ih (i + 1) (by omega) (by rw [← he, fstP_f (by simp [hx, q])])
      · rw [← he, fstP_t (by simp [hx, q])]; rfl
  exact key ns.length 0 (by omega) rfl
theorem c_withCode {w : List Nat} (hw : ltOk w) : xC d yX10_withCode cX10_withCode 6 (some (.object "TreatyRouter$Word")) 0 0 [.long (lN (codC w))] μ ro (fun r μ' => r = some (wV ro (nbr kwds w)) ∧ μ' = μ) := by
  refine I_X10_withCode (fun J g hr => B_X10_withCode_0 g hr ?_)
  have key : ∀ m i, i + m = 12 → fstP (fun i => decide (kwds[i]? = some w)) i m = nbr kwds w → J μ 0 0 10 [(0, .long (lN (codC w))), (2, .ref (ro 0)), (3, .int 12), (4, .int (nI i))] [] := by
    intro m
    induction m with
    | zero =>
      intro i hi he
      refine B_X10_withCode_10 g hr (pk_le 12 i (fun _ => ⟨?_, rfl⟩) (fun q => by omega))
      rw [← he]; rfl
    | succ m ih =>
      intro i hi he
      have hl : i < kwds.length := by show i < 12; omega
      have hx : kwds[i]? = some kwds[i] := List.getElem?_eq_getElem hl
      have x1 := kwds_ok _ (List.mem_of_getElem? hx)
      refine B_X10_withCode_10 g hr (pk_le 12 i (fun q => by omega) (fun _ => ⟨vp_in_nI (by omega) (by omega), fun w3 e3 _ => ?_⟩))
      rw [nI_clamp (by omega)] at e3
      subst e3
      rw [kwds_code _ hl _ hx, lg_cmp_eq, lN_inj ⟨by omega, x1.2.2⟩ hw]
      refine ⟨fun q => ?_, fun q => ⟨?_, rfl⟩⟩
      · rw [nI_1]
        exact ih (w3 + 1) (by omega) (by rw [← he, fstP_f (by simp only [hx, decide_eq_true_eq, Option.some.injEq]; exact q)])
      · rw [← he, fstP_t (by simp only [hx, decide_eq_true_eq, Option.some.injEq]; exact q)]; rfl
  exact key 12 0 (by omega) rfl
end rdc
