/-! the model's numbers, and whether a text goes on -/
section mrn
variable {d : Nat} {ro : Nat → Nat} {μ : Hp} {m : Nat} {X : Nat → Nat} {t : Nat → Int32} {len : Nat} {c : Cu} {K : Option Value → Hp → Prop}
theorem k_mn {lo hi : Nat} (hd : 3 ≤ d) (hs : mSh μ m X) (h : mCu μ m X t len c) (hlo : lo ≤ hi) (hhi : hi ≤ 9999) (hK : ∀ μ', mCu μ' m X t len (nxN t len lo hi c).2 → wFr m μ μ' → (c.1 = none → hI μ' m 5 = nI (nxN t len lo hi c).2.2.1) → K (some (.int (nI (nxN t len lo hi c).1))) μ') : xCall d yX12_number cX12_number 5 (some .int) [.ref m, .int (nI lo), .int (nI hi)] μ ro K := by
  by_cases e : c.1 = none
  · refine xCall_of (d' := d - 1) (Z := fun r μ' => r = some (.int (nI (nxN t len lo hi c).1)) ∧ mCu μ' m X t len (nxN t len lo hi c).2 ∧ wFr m μ μ' ∧ hI μ' m 5 = nI (nxN t len lo hi c).2.2.1) ?_ (by omega) (by rintro r μ' ⟨rfl, q1, q2, q3⟩; exact hK _ q1 q2 (fun _ => q3))
    have hcc := h
    obtain ⟨⟨h2, h4, h3⟩, hl, hc, ht⟩ := hcc
    refine I_X12_number (fun J g hr => B_X12_number_0 g hr hs.1 ⟨fun _ => xCall_of (c_look (d := d - 2) (by omega) hs h) (by omega) ?_, fun q => absurd (h.f4.mpr e) q⟩)
    rintro r μ1 ⟨rfl, rfl⟩
    refine ⟨_, rfl, hs.1, ?_⟩
    unfold nxN at hr
    rw [if_pos e] at hr
    have heE : runE (isDg t) (len - skE t len c.2.2) (skE t len c.2.2) = dgE t len c.2.2 := rfl
    have hV : nmV t len c.2.2 = nmC t (skE t len c.2.2) (dgE t len c.2.2 - skE t len c.2.2) := rfl
    have he1 := dgE_ge t len c.2.2
    have he2 := dgE_le t hc.2.1
    have hsl := skE_le t hc.2.1
    unfold nmBad at hr
    generalize skE t len c.2.2 = s at hr heE he1 hsl hV ⊢
    generalize dgE t len c.2.2 = e9 at hr heE he1 he2 hV
    generalize nmV t len c.2.2 = N at hr hV
    have key : ∀ n i μ', s + i + n = len → runE (isDg t) n (s + i) = e9 → (∀ j, j < i → isDg t (s + j) = true) → wFr m μ μ' → (hI μ' m 3 = nI (s + i) ∧ hI μ' m 4 = -1 ∧ hI μ' m 5 = nI s) → J μ' 0 0 26 [(0, .ref m), (1, .int (nI lo)), (2, .int (nI hi)), (4, .int (nI (nmM t s i)))] [] := by
      intro n
      have stop : ∀ i μ', s + i = e9 → (∀ j, j < i → isDg t (s + j) = true) → wFr m μ μ' → (hI μ' m 3 = nI (s + i) ∧ hI μ' m 4 = -1 ∧ hI μ' m 5 = nI s) → ¬ (s + i < len ∧ isDg t (s + i) = true) → J μ' 0 0 26 [(0, .ref m), (1, .int (nI lo)), (2, .int (nI hi)), (4, .int (nI (nmM t s i)))] [] := by
        intro i μ' hi1 hj W' v' hno
        have s' := W'.sh hs
        have c' : mCu μ' m X t len (none, s, s + i) := ⟨⟨by rw [W'.2.2.1 2 (by decide) (by decide) (by decide)]; exact h2, v'.2.1, v'.1⟩, hl, ⟨hsl, by show s + i ≤ len; omega, fun p hp => by cases hp⟩, by rw [(W'.2.1 _ (hs.ne 1)).1]; exact ht⟩
        have c2 : mCu μ' m X t len (none, s, e9) := by rw [← hi1]; exact c'
        have rel := nm_rel (t := t) (s := s) i hj
        have eN : N = nmC t s i := by rw [hV, show e9 - s = i by omega]
        have hM : nmM t s i ≤ 999999 := by omega
        refine B_X12_number_26 g hr s'.1 (by omega) (xCall_of (c_isDigit (d := d - 2) (by omega) s' c') (by omega) ?_)
        rintro r μ' ⟨rfl, rfl⟩
        refine ⟨_, rfl, fun _ => ⟨s'.1, ?_⟩, fun q => absurd (if_neg hno) q⟩
        rw [v'.1, v'.2.2]
        have fin : (e9 = s ∨ N < lo ∨ hi < N) → ∀ μ2, mCu μ2 m X t len (flC (none, s, e9) s) → wFr m μ' μ2 → (∀ k, k ≠ 4 → hI μ2 m k = hI μ' m k) → hL μ2 = hL μ' → hS μ2 m = some (15, 65) ∧ ((¬ hI μ2 m 4 = -1 → some (Value.int (nI lo)) = some (.int (nI (if e9 = s ∨ N < lo ∨ hi < N then lo else N))) ∧ mCu μ2 m X t len ((if e9 = s ∨ N < lo ∨ hi < N then some s else none), s, e9) ∧ wFr m μ μ2 ∧ hI μ2 m 5 = nI s) ∧ (hI μ2 m 4 = -1 → some (Value.int (nI (nmM t s i))) = some (.int (nI (if e9 = s ∨ N < lo ∨ hi < N then lo else N))) ∧ mCu μ2 m X t len ((if e9 = s ∨ N < lo ∨ hi < N then some s else none), s, e9) ∧ wFr m μ μ2 ∧ hI μ2 m 5 = nI s)) := by
          intro hb μ2 m2 W2 o2 l2
          rw [if_pos hb, if_pos hb]
          refine ⟨(W2.sh s').1, fun _ => ⟨rfl, m2, W'.tt W2, by rw [o2 5 (by decide)]; exact v'.2.2⟩, fun q => absurd (m2.f4.mp q) flC_n⟩
        refine ⟨fun q => k_mf (by omega) s' c2 (by omega) (fun μ2 m2 W2 o2 l2 => ⟨rfl, fin (Or.inl (by have := (nI_eq (by omega) (by omega)).mp q; omega)) μ2 m2 W2 o2 l2⟩), fun q => pk_lt (nmM t s i) lo (fun ql => k_mf (by omega) s' c2 (by omega) (fun μ2 m2 W2 o2 l2 => ⟨rfl, fin (Or.inr (Or.inl (by omega))) μ2 m2 W2 o2 l2⟩)) (fun ql => pk_lt hi (nmM t s i) (fun qh => k_mf (by omega) s' c2 (by omega) (fun μ2 m2 W2 o2 l2 => ⟨rfl, fin (Or.inr (Or.inr (by omega))) μ2 m2 W2 o2 l2⟩)) (fun qh => ⟨fun z => absurd v'.2.1 z, fun _ => ?_⟩))⟩
        have hs9 : e9 ≠ s := fun z => q (by rw [hi1, z])
        rw [if_neg (by omega), if_neg (by omega)]
        exact ⟨by rw [show nmM t s i = N by omega], c2, W', rfl⟩
      induction n with
      | zero =>
        intro i μ' hi1 hi2 hj W' v'
        exact stop i μ' hi2 hj W' v' (fun q => by omega)
      | succ n ih =>
        intro i μ' hi1 hi2 hj W' v'
        by_cases q : isDg t (s + i) = true
        · have s' := W'.sh hs
          have c' : mCu μ' m X t len (none, s, s + i) := ⟨⟨by rw [W'.2.2.1 2 (by decide) (by decide) (by decide)]; exact h2, v'.2.1, v'.1⟩, hl, ⟨hsl, by show s + i ≤ len; omega, fun p hp => by cases hp⟩, by rw [(W'.2.1 _ (hs.ne 1)).1]; exact ht⟩
          have rel := nm_rel (t := t) (s := s) i hj
          refine B_X12_number_26 g hr s'.1 (by omega) (xCall_of (c_isDigit (d := d - 2) (by omega) s' c') (by omega) ?_)
          rintro r μ' ⟨rfl, rfl⟩
          refine ⟨_, rfl, fun z => absurd z (by rw [if_pos ⟨by show s + i < len; omega, q⟩]; decide), fun _ => ?_⟩
          rw [runE_t q] at hi2
          have hj' : ∀ j, j < i + 1 → isDg t (s + j) = true := fun j hj1 => by
            rcases Nat.lt_or_ge j i with z | z
            · exact hj j z
            · rw [show j = i by omega]; exact q
          have nxt : J (wI μ' m 3 (hI μ' m 3 + 1)) 0 0 26 [(0, .ref m), (1, .int (nI lo)), (2, .int (nI hi)), (4, .int (nI (nmM t s (i + 1))))] [] := by
            rw [v'.1, nI_1]
            refine ih (i + 1) _ (by omega) (by rw [← hi2]; rfl) hj' (W'.tt (wFr.w 3 _ (by omega))) ⟨?_, ?_, ?_⟩
            · rw [hI_wI_s, upd_s]; rfl
            · rw [hI_wI_s, upd_n _ (by decide)]; exact v'.2.1
            · rw [hI_wI_s, upd_n _ (by decide)]; exact v'.2.2
          have eM : nmM t s (i + 1) = if nmM t s i ≤ 99999 then 10 * nmM t s i + dgt (t (s + i)) else nmM t s i := rfl
          refine pk_le (nmM t s i) 99999 (fun z => ⟨s'.1, X 1, s'.r 1 1 400, 400, s'.s 1 1 400, ?_⟩) (fun z => ⟨s'.1, ?_⟩)
          · rw [c'.1.1, v'.1]
            refine pk_le len (s + i) (fun y => by omega) (fun _ => ⟨vp_in_nI (by omega) (by omega), fun v33 e33 => ?_⟩)
            rw [nI_clamp (by omega), c'.2.2.2 (s + i) (by omega)] at e33
            have q2 := q
            simp only [isDg, decide_eq_true_eq] at q2
            obtain ⟨a, a1, a2, a3⟩ := dg_of q2.1 q2.2
            rw [a3, show (10 : Int32) * nI (nmM t s i) = nI (10 * nmM t s i) from pk_mul 10 _, nI_add] at e33
            rw [eM, if_pos z, a3, dgt, nI_clamp (by omega)] at nxt
            rw [e33, show nI (10 * nmM t s i + a) - 48 = nI (10 * nmM t s i + a - 48) from pk_sub (b := 48) (by omega), show 10 * nmM t s i + a - 48 = 10 * nmM t s i + (a - 48) by omega]
            rw [v'.1] at nxt
            exact nxt
          · rw [eM, if_neg (by omega)] at nxt
            exact nxt
        · rw [runE_f q] at hi2
          exact stop i μ' hi2 hj W' v' (fun z => q z.2)
    refine key (len - s) 0 _ (by omega) heE (fun j hj => by omega) ((wFr.w 3 _ (by omega)).tt (wFr.w 5 _ (by omega))) ⟨?_, ?_, ?_⟩
    · rw [hI_wI_s, upd_n _ (by decide), hI_wI_s, upd_s]; rfl
    · rw [hI_wI_s, upd_n _ (by decide), hI_wI_s, upd_n _ (by decide)]; exact h.f4.mpr e
    · rw [hI_wI_s, upd_s, hI_wI_s, upd_s]
  · refine xCall_of (d' := d - 1) (Z := fun r μ' => r = some (.int (nI lo)) ∧ μ' = μ) (I_X12_number (fun J g hr => B_X12_number_0 g hr hs.1 ⟨fun q => absurd (h.f4.mp q) e, fun _ => ⟨rfl, rfl⟩⟩)) (by omega) ?_
    rintro r μ' ⟨rfl, rfl⟩
    unfold nxN at hK
    rw [if_neg e] at hK
    exact hK _ h wFr.rf (fun z => absurd z e)
theorem t_pos {i : Nat} (hb : ∀ i, i < len → ∃ n, 1 ≤ n ∧ n ≤ 255 ∧ t i = nI n) (hi : i < len) : ¬ t i = -1 := by
  obtain ⟨n, n1, n2, n3⟩ := hb i hi
  rw [n3]; exact oI_ne (k := n) (by omega)
theorem k_mg (hd : 3 ≤ d) (hs : mSh μ m X) (h : mCu μ m X t len c) (hb : ∀ i, i < len → ∃ n, 1 ≤ n ∧ n ≤ 255 ∧ t i = nI n) (hK : ∀ μ', mCu μ' m X t len (goC t len c).2 → wFr m μ μ' → K (some (.int (if (goC t len c).1 = true then 1 else 0))) μ') : xCall d yX12_goesOn cX12_goesOn 2 (some .boolean) [.ref m] μ ro K := by
  have hok := goC_ok (t := t) h.2.2.1
  by_cases e : c.1 = none
  · refine xCall_of (d' := d - 1) (Z := fun r μ' => r = some (.int (if (goC t len c).1 = true then 1 else 0)) ∧ mCu μ' m X t len (goC t len c).2 ∧ wFr m μ μ') ?_ (by omega) (by rintro r μ' ⟨rfl, q1, q2⟩; exact hK _ q1 q2)
    have hcc := h
    obtain ⟨⟨h2, h4, h3⟩, hl, hc, ht⟩ := hcc
    refine I_X12_goesOn (fun J g hr => B_X12_goesOn_0 g hr hs.1 ⟨fun _ => xCall_of (c_look (d := d - 2) (by omega) hs h) (by omega) ?_, fun q => absurd (h.f4.mpr e) q⟩)
    rintro r μ1 ⟨rfl, rfl⟩
    refine ⟨_, rfl, ?_⟩
    have hsl := skE_le t hc.2.1
    unfold goC at hr hok
    rw [if_pos e] at hr hok
    generalize skE t len c.2.2 = s at hr hsl hok ⊢
    have W1 : wFr m μ (wI μ m 3 (nI s)) := wFr.w 3 _ (by omega)
    have c1 : mCu (wI μ m 3 (nI s)) m X t len (none, s, s) := ⟨⟨by rw [hI_wI_s, upd_n _ (by decide)]; exact h2, by rw [hI_wI_s, upd_n _ (by decide), h4, e], by rw [hI_wI_s, upd_s]⟩, hl, ⟨hsl, hsl, fun p hp => by cases hp⟩, by rw [hI_wI_n _ _ _ (hs.ne 1)]; exact ht⟩
    have at3 : hI (wI μ m 3 (nI s)) m 3 = nI s := by rw [hI_wI_s, upd_s]
    by_cases e2 : s < len
    · rw [if_pos e2] at hr hok ⊢
      by_cases e3 : t s = 59
      · rw [if_pos e3] at hr hok
        rw [e3]
        refine ⟨fun q => absurd q (by decide), fun _ => ⟨fun _ => B_X12_goesOn_34 g hr hs.1 ⟨fun _ => ⟨rfl, ⟨⟨?_, ?_, ?_⟩, hl, hok, ?_⟩, W1.tt (wFr.w 3 _ (by omega))⟩, fun q => absurd rfl q⟩, fun q => absurd rfl q⟩⟩
        · rw [hI_wI_s, upd_n _ (by decide)]; exact c1.1.1
        · rw [hI_wI_s, upd_n _ (by decide)]; exact c1.1.2.1
        · rw [hI_wI_s, upd_s, at3, nI_1]
        · rw [hI_wI_n _ _ _ (hs.ne 1)]; exact c1.2.2.2
      · rw [if_neg e3] at hr hok
        refine ⟨fun q => absurd q (t_pos hb e2), fun _ => ⟨fun q => absurd q e3, fun _ => ⟨hs.1, ?_⟩⟩⟩
        rw [at3]
        refine k_mf (by omega) (μ := wI μ m 3 (nI s)) hs c1 hsl (fun μ2 m2 W2 o2 l2 => ⟨rfl, B_X12_goesOn_34 g hr (W2.sh (W1.sh hs)).1 ⟨fun q => absurd q e3, fun _ => ⟨rfl, ?_, W1.tt W2⟩⟩⟩)
        exact m2
    · rw [if_neg e2] at hr hok ⊢
      refine ⟨fun _ => B_X12_goesOn_34 g hr hs.1 ⟨fun q => absurd q (by decide), fun _ => ⟨rfl, c1, W1⟩⟩, fun q => absurd rfl q⟩
  · refine xCall_of (d' := d - 1) (Z := fun r μ' => r = some (.int 0) ∧ μ' = μ) (I_X12_goesOn (fun J g hr => B_X12_goesOn_0 g hr hs.1 ⟨fun q => absurd (h.f4.mp q) e, fun _ => ⟨rfl, rfl⟩⟩)) (by omega) ?_
    rintro r μ' ⟨rfl, rfl⟩
    unfold goC at hK
    rw [if_neg e] at hK
    exact hK _ h wFr.rf
theorem c_spotOf {a N : Nat} {ns : List (List Nat)} {w : List Nat} (hs : hS μ a = some (2, N)) (hN : ns.length ≤ N) (hN2 : N < 100) (hw : ltOk w) (h : ∀ i x, ns[i]? = some x → ltOk x ∧ hL μ a i = lN (codM x)) :
    xC d yX12_spotOf cX12_spotOf 5 (some .int) 0 0 [.ref a, .int (nI ns.length), .long (lN (codM w))] μ ro (fun r μ' => r = some (.int (oI (nbr ns w))) ∧ μ' = μ) := by
  refine I_X12_spotOf (fun J g hr => B_X12_spotOf_0 g hr ?_)
  have key : ∀ n i, i + n = ns.length → fstP (fun i => decide (ns[i]? = some w)) i n = nbr ns w → J μ 0 0 3 [(0, .ref a), (1, .int (nI ns.length)), (2, .long (lN (codM w))), (4, .int (nI i))] [] := by
    intro n
    induction n with
    | zero =>
      intro i hi he
      refine B_X12_spotOf_3 g hr hs (pk_le ns.length i (fun _ => ⟨?_, rfl⟩) (fun q => by omega))
      rw [← he]; rfl
    | succ n ih =>
      intro i hi he
      have hx : ns[i]? = some ns[i] := List.getElem?_eq_getElem (by omega)
      obtain ⟨x1, x2⟩ := h i _ hx
      refine B_X12_spotOf_3 g hr hs (pk_le ns.length i (fun q => by omega) (fun _ => ⟨vp_in_nI (by omega) (by omega), ?_⟩))
      rw [nI_clamp (by omega), x2, lg_cmp_eq, lM_inj x1 hw]
      refine ⟨fun q => ?_, fun q => ⟨?_, rfl⟩⟩
      · rw [nI_1]
        exact ih (i + 1) (by omega) (by rw [← he, fstP_f (by simp [hx, q])])
      · rw [← he, fstP_t (by simp [hx, q])]; rfl
  exact key ns.length 0 (by omega) rfl
end mrn
