/-! the model's reading by cursors -/
theorem byt_and : ∀ n, n < 256 → byt n &&& 255 = nI n := by decide +kernel
def mCu (μ : Hp) (m : Nat) (X : Nat → Nat) (t : Nat → Int32) (len : Nat) (c : Cu) : Prop := (hI μ m 2 = nI len ∧ hI μ m 4 = oI c.1 ∧ hI μ m 3 = nI c.2.2) ∧ len ≤ 400 ∧ cuOk len c ∧ ∀ i, i < len → hI μ (X 1) i &&& 255 = t i
/-- what the model's reader changes: its own numbers 3, 4, 5 and the word 6 -/
def wFr (m : Nat) (μ μ' : Hp) : Prop := (hR μ' = hR μ ∧ hS μ' = hS μ) ∧ (∀ a, a ≠ m → hI μ' a = hI μ a ∧ hL μ' a = hL μ a) ∧ (∀ k, k ≠ 3 → k ≠ 4 → k ≠ 5 → hI μ' m k = hI μ m k) ∧ ∀ k, k ≠ 6 → hL μ' m k = hL μ m k
theorem wFr.rf {m : Nat} {μ : Hp} : wFr m μ μ := ⟨⟨rfl, rfl⟩, fun _ _ => ⟨rfl, rfl⟩, fun _ _ _ _ => rfl, fun _ _ => rfl⟩
theorem wFr.tt {m : Nat} {μ μ1 μ2 : Hp} (h : wFr m μ μ1) (h' : wFr m μ1 μ2) : wFr m μ μ2 := ⟨⟨h'.1.1.trans h.1.1, h'.1.2.trans h.1.2⟩, fun a ha => ⟨(h'.2.1 a ha).1.trans (h.2.1 a ha).1, (h'.2.1 a ha).2.trans (h.2.1 a ha).2⟩, fun k h3 h4 h5 => (h'.2.2.1 k h3 h4 h5).trans (h.2.2.1 k h3 h4 h5), fun k hk => (h'.2.2.2 k hk).trans (h.2.2.2 k hk)⟩
theorem wFr.w {m : Nat} {μ : Hp} (k : Nat) (x : Int32) (hk : k = 3 ∨ k = 4 ∨ k = 5) : wFr m μ (wI μ m k x) := ⟨⟨rfl, rfl⟩, fun a ha => ⟨hI_wI_n _ _ _ ha, rfl⟩, fun j h3 h4 h5 => by rw [hI_wI_s, upd_n _ (by omega)], fun _ _ => rfl⟩
theorem wFr.l {m : Nat} {μ : Hp} (x : Int64) : wFr m μ (wL μ m 6 x) := ⟨⟨rfl, rfl⟩, fun a ha => ⟨rfl, hL_wL_n _ _ _ ha⟩, fun _ _ _ _ => rfl, fun k hk => by rw [hL_wL_s, updL_n _ hk]⟩
theorem wFr.sh {m : Nat} {X : Nat → Nat} {μ μ' : Hp} (h : wFr m μ μ') (hs : mSh μ m X) : mSh μ' m X := hs.of h.1.2 h.1.1
theorem wI_id {μ : Hp} {a k : Nat} {x : Int32} (h : hI μ a k = x) : wI μ a k x = μ := by
  rw [wI_eq, ← h, upd_id]; exact wRow_id _ _
theorem codM_app (l : List Nat) (x : Nat) : codM (l ++ [x]) = codM l * 32 + x := by
  unfold codM
  rw [List.foldl_append]
  rfl
theorem ltOk.rev {l : List Nat} (h : ltOk l) : ltOk l.reverse := ⟨by simpa using h.1, fun x hx => h.2 x (by simpa using hx)⟩
theorem lM_inj {a b : List Nat} (ha : ltOk a) (hb : ltOk b) : lN (codM a) = lN (codM b) ↔ a = b := by
  rw [codM_eq, codM_eq, lN_inj ha.rev hb.rev]
  exact ⟨fun e => by have := congrArg List.reverse e; simpa using this, fun e => by rw [e]⟩
theorem codM_lt {l : List Nat} (h : ∀ x ∈ l, 1 ≤ x ∧ x ≤ 26) : codM l < 32 ^ l.length := by
  rw [codM_eq]
  have := codC_lt (ns := l.reverse) (fun x hx => h x (by simpa using hx))
  simpa using this
theorem shl5 {a x : Nat} (ha : a < 2 ^ 50) (hx : x < 32) : (lN a <<< ((5 : Int32).toInt64 &&& 63)) ||| (nI x).toInt64 = lN (a * 32 + x) := by
  rw [nI_l (by omega)]
  have h1 : lN a <<< ((5 : Int32).toInt64 &&& 63) = lN (a * 32) := by
    have h2 : lN a <<< ((5 : Int32).toInt64 &&& 63) = (UInt64.ofNat a <<< 5).toInt64 := rfl
    have h3 : lN (a * 32) = (UInt64.ofNat (a * 32)).toInt64 := rfl
    rw [h2, h3]
    congr 1
    apply UInt64.toNat_inj.mp
    rw [UInt64.toNat_shiftLeft, u64 (by omega), u64 (by omega), Nat.shiftLeft_eq]
    show a * 2 ^ 5 % 2 ^ 64 = a * 32
    rw [Nat.mod_eq_of_lt (by omega)]
  rw [h1, orL (by omega) (by omega)]
  congr 1
  rw [show a * 32 = 2 ^ 5 * a by omega, ← Nat.two_pow_add_eq_or_of_lt (by omega)]
/-- the model's number of m digits -/
def nmM (t : Nat → Int32) (s : Nat) : Nat → Nat
  | 0 => 0
  | m + 1 => if nmM t s m ≤ 99999 then 10 * nmM t s m + dgt (t (s + m)) else nmM t s m
theorem dgt_9 {t : Nat → Int32} {j : Nat} (h : isDg t j = true) : dgt (t j) ≤ 9 := by
  simp only [isDg, decide_eq_true_eq] at h
  obtain ⟨c, c1, c2, c3⟩ := dg_of h.1 h.2
  rw [c3, dgt, nI_clamp (by omega)]
  omega
theorem nm_rel {t : Nat → Int32} {s : Nat} : ∀ m, (∀ i, i < m → isDg t (s + i) = true) → (nmM t s m = nmC t s m ∧ nmM t s m ≤ 99999) ∨ (99999 < nmM t s m ∧ 99999 < nmC t s m ∧ nmM t s m ≤ 999999)
  | 0, _ => Or.inl ⟨rfl, by simp [nmM]⟩
  | m + 1, h => by
    have ih := nm_rel m (fun i hi => h i (by omega))
    have h9 := dgt_9 (h m (by omega))
    unfold nmM nmC
    rcases ih with ⟨i1, i2⟩ | ⟨i1, i2, i3⟩
    · rw [if_pos i2, ← i1]
      rcases Nat.lt_or_ge 99999 (10 * nmM t s m + dgt (t (s + m))) with q | q
      · right; omega
      · left; omega
    · rw [if_neg (by omega)]; right; omega
section mrd
variable {d : Nat} {ro : Nat → Nat} {μ : Hp} {m : Nat} {X : Nat → Nat} {t : Nat → Int32} {len : Nat} {c : Cu} {K : Option Value → Hp → Prop}
theorem mCu.f4 (h : mCu μ m X t len c) : hI μ m 4 = -1 ↔ c.1 = none := by
  rw [h.1.2.1]
  cases e : c.1 with
  | none => exact ⟨fun _ => rfl, fun _ => rfl⟩
  | some p =>
    have := h.2.2.1.2.2 p e
    have := h.2.1
    exact ⟨fun q => absurd q (oI_ne (by omega)), fun q => by cases q⟩
theorem c_look (hd : 1 ≤ d) (hs : mSh μ m X) (h : mCu μ m X t len c) : xC d yX12_look cX12_look 1 (some .int) 0 0 [.ref m] μ ro (fun r μ' => r = some (.int (if skE t len c.2.2 < len then t (skE t len c.2.2) else -1)) ∧ μ' = wI μ m 3 (nI (skE t len c.2.2))) := by
  obtain ⟨⟨h2, h4, h3⟩, hl, hc, ht⟩ := h
  have hne := hs.ne 1
  refine I_X12_look (fun J g hr => ?_)
  have he : runE (isB t) (len - c.2.2) c.2.2 = skE t len c.2.2 := rfl
  have hel := skE_le t hc.2.1
  generalize skE t len c.2.2 = e at he hr hel
  have key : ∀ n i, i + n = len → runE (isB t) n i = e → J (wI μ m 3 (nI i)) 0 0 0 [(0, .ref m)] [] := by
    intro n
    induction n with
    | zero =>
      intro i hi hi2
      have hie : i = e := hi2
      refine B_X12_look_0 g hr hs.1 (hs.r 1 1 400) (hs.s 1 1 400) hd ?_
      rw [hI_wI_s, upd_n _ (by decide), upd_s, h2]
      refine pk_le len i (fun _ => pk_le len i (fun _ => ⟨?_, by rw [hie]⟩) (fun q => by omega)) (fun q => by omega)
      rw [if_neg (by omega)]
    | succ n ih =>
      intro i hi hi2
      refine B_X12_look_0 g hr hs.1 (hs.r 1 1 400) (hs.s 1 1 400) hd ?_
      rw [hI_wI_s, upd_n _ (by decide), upd_s, h2, hI_wI_n _ _ _ hne, nI_clamp (by omega), ht i (by omega)]
      refine pk_le len i (fun q => by omega) (fun _ => ⟨vp_in_nI (by omega) (by omega), fun q => pk_le len i (fun q => by omega) (fun _ => ?_), fun q => ?_⟩)
      · rw [runE_f (by simp [isB, q])] at hi2
        subst hi2
        exact ⟨by rw [if_pos (by omega)], rfl⟩
      · rw [runE_t (by simp [isB, q])] at hi2
        have := ih (i + 1) (by omega) hi2
        rw [nI_1, wI_eq, hI_wI_s, upd_upd, wI_eq μ, wRow_wRow]
        exact this
  have := key (len - c.2.2) c.2.2 (by have := hc.2.1; omega) he
  rw [wI_id h3] at this
  exact this
theorem c_isLetter (hd : 1 ≤ d) (hs : mSh μ m X) (h : mCu μ m X t len c) : xC d yX12_isLetter cX12_isLetter 1 (some .boolean) 0 0 [.ref m] μ ro (fun r μ' => r = some (.int (if c.2.2 < len ∧ isLt t c.2.2 = true then 1 else 0)) ∧ μ' = μ) := by
  obtain ⟨⟨h2, h4, h3⟩, hl, hc, ht⟩ := h
  have := hc.2.1
  refine I_X12_isLetter (fun J g hr => B_X12_isLetter_0 g hr hs.1 (hs.r 1 1 400) (hs.s 1 1 400) hd ?_)
  rw [h2, h3, nI_clamp (by omega)]
  refine pk_le len c.2.2 (fun q => ⟨by rw [if_neg (by omega)], rfl⟩) (fun q => ⟨vp_in_nI (by omega) (by omega), ?_⟩)
  rw [ht _ q]
  refine ⟨fun a => ⟨by rw [if_neg (fun z => by simp [isLt, a] at z)], rfl⟩, fun a => pk_le len c.2.2 (fun q => by omega) (fun _ => ⟨fun b => ⟨by rw [if_neg (fun z => by simp [isLt, b] at z)], rfl⟩, fun b => ⟨by rw [if_pos ⟨q, by simp [isLt, a, b]⟩], rfl⟩⟩)⟩
theorem c_isDigit (hd : 1 ≤ d) (hs : mSh μ m X) (h : mCu μ m X t len c) : xC d yX12_isDigit cX12_isDigit 1 (some .boolean) 0 0 [.ref m] μ ro (fun r μ' => r = some (.int (if c.2.2 < len ∧ isDg t c.2.2 = true then 1 else 0)) ∧ μ' = μ) := by
  obtain ⟨⟨h2, h4, h3⟩, hl, hc, ht⟩ := h
  have := hc.2.1
  refine I_X12_isDigit (fun J g hr => B_X12_isDigit_0 g hr hs.1 (hs.r 1 1 400) (hs.s 1 1 400) hd ?_)
  rw [h2, h3, nI_clamp (by omega)]
  refine pk_le len c.2.2 (fun q => ⟨by rw [if_neg (by omega)], rfl⟩) (fun q => ⟨vp_in_nI (by omega) (by omega), ?_⟩)
  rw [ht _ q]
  refine ⟨fun a => ⟨by rw [if_neg (fun z => by simp [isDg, a] at z)], rfl⟩, fun a => pk_le len c.2.2 (fun q => by omega) (fun _ => ⟨fun b => ⟨by rw [if_neg (fun z => by simp [isDg, b] at z)], rfl⟩, fun b => ⟨by rw [if_pos ⟨q, by simp [isDg, a, b]⟩], rfl⟩⟩)⟩
theorem k_mf {x : Nat} (hd : 1 ≤ d) (hs : mSh μ m X) (h : mCu μ m X t len c) (hx : x ≤ len) (hK : ∀ μ', mCu μ' m X t len (flC c x) → wFr m μ μ' → (∀ k, k ≠ 4 → hI μ' m k = hI μ m k) → hL μ' = hL μ → K none μ') : xCall d yX12_fails cX12_fails 2 none [.ref m, .int (nI x)] μ ro K := by
  refine xCall_of (d' := d - 1) (Z := fun r μ' => r = none ∧ μ' = if hI μ m 4 = -1 then wI μ m 4 (nI x) else μ) (I_X12_fails (fun J g hr => B_X12_fails_0 g hr hs.1 ⟨fun q => ⟨rfl, by rw [if_neg q]⟩, fun q => ⟨rfl, by rw [if_pos q]⟩⟩)) (by omega) ?_
  rintro r μ' ⟨rfl, rfl⟩
  unfold flC at hK
  by_cases e : c.1 = none
  · rw [if_pos (h.f4.mpr e)]
    rw [if_pos e] at hK
    obtain ⟨⟨h2, h4, h3⟩, hl, hc, ht⟩ := h
    refine hK _ ⟨⟨?_, ?_, ?_⟩, hl, ⟨hc.1, hc.2.1, fun p hp => by cases hp; exact hx⟩, ?_⟩ (wFr.w 4 _ (by omega)) (fun k hk => by rw [hI_wI_s, upd_n _ hk]) rfl
    · rw [hI_wI_s, upd_n _ (by decide)]; exact h2
    · rw [hI_wI_s, upd_s]; rfl
    · rw [hI_wI_s, upd_n _ (by decide)]; exact h3
    · rw [hI_wI_n _ _ _ (hs.ne 1)]; exact ht
  · rw [if_neg (fun q => e (h.f4.mp q))]
    rw [if_neg e] at hK
    exact hK _ h wFr.rf (fun _ _ => rfl) rfl
theorem k_mw (hd : 3 ≤ d) (hs : mSh μ m X) (h : mCu μ m X t len c) (hK : ∀ μ', mCu μ' m X t len (nxW t len c).2 → wFr m μ μ' → (c.1 = none → hI μ' m 5 = nI (nxW t len c).2.2.1 ∧ hL μ' m 6 = lN (codM (nxW t len c).1)) → K none μ') : xCall d yX12_word cX12_word 2 none [.ref m] μ ro K := by
  by_cases e : c.1 = none
  · refine xCall_of (d' := d - 1) (Z := fun r μ' => r = none ∧ mCu μ' m X t len (nxW t len c).2 ∧ wFr m μ μ' ∧ hI μ' m 5 = nI (nxW t len c).2.2.1 ∧ hL μ' m 6 = lN (codM (nxW t len c).1)) ?_ (by omega) (by rintro r μ' ⟨rfl, q1, q2, q3, q4⟩; exact hK _ q1 q2 (fun _ => ⟨q3, q4⟩))
    have hcc := h
    obtain ⟨⟨h2, h4, h3⟩, hl, hc, ht⟩ := hcc
    refine I_X12_word (fun J g hr => B_X12_word_0 g hr hs.1 ⟨fun _ => xCall_of (c_look (d := d - 2) (by omega) hs h) (by omega) ?_, fun q => absurd (h.f4.mpr e) q⟩)
    rintro r μ1 ⟨rfl, rfl⟩
    refine ⟨_, rfl, hs.1, ?_⟩
    unfold nxW at hr
    rw [if_pos e] at hr
    have heE : runE (isLt t) (len - skE t len c.2.2) (skE t len c.2.2) = wdE t len c.2.2 := rfl
    have he1 := wdE_ge t len c.2.2
    have he2 := wdE_le t hc.2.1
    have hsl := skE_le t hc.2.1
    generalize skE t len c.2.2 = s at hr heE he1 hsl ⊢
    generalize wdE t len c.2.2 = e9 at hr heE he1 he2
    have key : ∀ n i μ', s + i + n = len → runE (isLt t) n (s + i) = e9 → (∀ j, j < i → isLt t (s + j) = true) → wFr m μ μ' → (hI μ' m 3 = nI (s + i) ∧ hI μ' m 4 = -1 ∧ hI μ' m 5 = nI s) → hL μ' m 6 = lN (codM (ltrs t s (min i 8))) → J μ' 0 0 27 [(0, .ref m)] [] := by
      intro n
      have stop : ∀ i μ', s + i = e9 → wFr m μ μ' → (hI μ' m 3 = nI (s + i) ∧ hI μ' m 4 = -1 ∧ hI μ' m 5 = nI s) → hL μ' m 6 = lN (codM (ltrs t s (min i 8))) → ¬ (s + i < len ∧ isLt t (s + i) = true) → J μ' 0 0 27 [(0, .ref m)] [] := by
        intro i μ' hi W' v' w' hno
        have s' := W'.sh hs
        have c' : mCu μ' m X t len (none, s, s + i) := ⟨⟨by rw [W'.2.2.1 2 (by decide) (by decide) (by decide)]; exact h2, v'.2.1, v'.1⟩, hl, ⟨hsl, by show s + i ≤ len; omega, fun p hp => by cases hp⟩, by rw [(W'.2.1 _ (hs.ne 1)).1]; exact ht⟩
        refine B_X12_word_27 g hr s'.1 (by omega) (xCall_of (c_isLetter (d := d - 2) (by omega) s' c') (by omega) ?_)
        rintro r μ' ⟨rfl, rfl⟩
        refine ⟨_, rfl, fun _ => ⟨s'.1, ?_⟩, fun q => absurd (if_neg hno) q⟩
        rw [v'.1, v'.2.2, pk_sub (by omega), show s + i - s = i by omega]
        have c2 : mCu μ' m X t len (none, s, e9) := by rw [← hi]; exact c'
        have fin : (e9 = s ∨ 8 < e9 - s) → ∀ μ2, mCu μ2 m X t len (flC (none, s, e9) s) → wFr m μ' μ2 → (∀ k, k ≠ 4 → hI μ2 m k = hI μ' m k) → hL μ2 = hL μ' → (none : Option Value) = none ∧ mCu μ2 m X t len ((if e9 = s ∨ 8 < e9 - s then some s else none), s, e9) ∧ wFr m μ μ2 ∧ hI μ2 m 5 = nI s ∧ hL μ2 m 6 = lN (codM (ltrs t s (min (e9 - s) 8))) := by
          intro hb μ2 m2 W2 o2 l2
          rw [if_pos hb]
          refine ⟨rfl, m2, W'.tt W2, by rw [o2 5 (by decide)]; exact v'.2.2, ?_⟩
          rw [l2, w', show e9 - s = i by omega]
        refine ⟨fun q => k_mf (by omega) s' c2 (by omega) (fun μ2 m2 W2 o2 l2 => ⟨rfl, fin (Or.inl (by have := (nI_eq (by omega) (by omega)).mp q; omega)) μ2 m2 W2 o2 l2⟩), fun q => pk_le i 8 (fun q8 => ⟨rfl, ?_, W', rfl, ?_⟩) (fun q8 => k_mf (by omega) s' c2 (by omega) (fun μ2 m2 W2 o2 l2 => ⟨rfl, fin (Or.inr (by omega)) μ2 m2 W2 o2 l2⟩))⟩
        · have : e9 ≠ s := fun z => q (by rw [hi, z])
          rw [if_neg (by omega)]; exact c2
        · rw [w', show e9 - s = i by omega]
      induction n with
      | zero =>
        intro i μ' hi hi2 _ W' v' w'
        exact stop i μ' hi2 W' v' w' (fun q => by omega)
      | succ n ih =>
        intro i μ' hi hi2 hj W' v' w'
        by_cases q : isLt t (s + i) = true
        · have s' := W'.sh hs
          have c' : mCu μ' m X t len (none, s, s + i) := ⟨⟨by rw [W'.2.2.1 2 (by decide) (by decide) (by decide)]; exact h2, v'.2.1, v'.1⟩, hl, ⟨hsl, by show s + i ≤ len; omega, fun p hp => by cases hp⟩, by rw [(W'.2.1 _ (hs.ne 1)).1]; exact ht⟩
          refine B_X12_word_27 g hr s'.1 (by omega) (xCall_of (c_isLetter (d := d - 2) (by omega) s' c') (by omega) ?_)
          rintro r μ' ⟨rfl, rfl⟩
          refine ⟨_, rfl, fun z => absurd z (by rw [if_pos ⟨by show s + i < len; omega, q⟩]; decide), fun _ => ⟨s'.1, ?_⟩⟩
          rw [v'.1, v'.2.2, pk_sub (by omega), show s + i - s = i by omega, nI_1]
          rw [runE_t q] at hi2
          have hj' : ∀ j, j < i + 1 → isLt t (s + j) = true := fun j hj1 => by
            rcases Nat.lt_or_ge j i with z | z
            · exact hj j z
            · rw [show j = i by omega]; exact q
          have nxt : ∀ w, w = lN (codM (ltrs t s (min (i + 1) 8))) → J (wI (wL μ' m 6 w) m 3 (nI (s + i + 1))) 0 0 27 [(0, .ref m)] [] := fun w hw => by
            refine ih (i + 1) _ (by omega) (by rw [← hi2]; rfl) hj' ((W'.tt (wFr.l w)).tt (wFr.w 3 _ (by omega))) ⟨?_, ?_, ?_⟩ ?_
            · rw [hI_wI_s, upd_s]; rfl
            · rw [hI_wI_s, upd_n _ (by decide)]; exact v'.2.1
            · rw [hI_wI_s, upd_n _ (by decide)]; exact v'.2.2
            · show hL (wL μ' m 6 w) m 6 = _
              rw [hL_wL_s, updL_s, hw]
          refine ⟨fun z => ?_, fun z => ⟨X 1, s'.r 1 1 400, 400, s'.s 1 1 400, ?_⟩⟩
          · have z8 : 8 ≤ i := by
              rcases Nat.lt_or_ge i 8 with y | y
              · exact absurd z (nI_ge (b := 8) y (by omega))
              · exact y
            have := nxt (lN (codM (ltrs t s (min (i + 1) 8)))) rfl
            rw [show min (i + 1) 8 = min i 8 by omega, ← w'] at this
            rw [show wL μ' m 6 (hL μ' m 6) = μ' by
              show (hI μ', va_up (hL μ') m (vp_updL (hL μ' m) 6 (hL μ' m 6)), hR μ', hS μ') = μ'
              rw [show vp_updL (hL μ' m) 6 (hL μ' m 6) = hL μ' m by
                funext j
                by_cases ej : j = 6
                · subst ej; exact updL_s _ _ _
                · exact updL_n _ ej, va_up_id]
              rfl] at this
            exact this
          · have z8 : i < 8 := by
              rcases Nat.lt_or_ge i 8 with y | y
              · exact y
              · exact absurd (nI_le (a := 8) y (by omega)) z
            rw [c'.1.1]
            refine pk_le len (s + i) (fun y => by omega) (fun _ => ⟨vp_in_nI (by omega) (by omega), fun v21 e21 v22 e22 => ?_⟩)
            rw [nI_clamp (by omega), c'.2.2.2 (s + i) (by omega)] at e21
            have q2 := q
            simp only [isLt, decide_eq_true_eq] at q2
            obtain ⟨a, a1, a2, a3⟩ := lt_of q2.1 q2.2
            rw [a3, show nI a - 97 = nI (a - 97) from pk_sub (b := 97) a1, nI_1, show a - 97 + 1 = a - 96 by omega] at e21
            have hlt := codM_lt (ltrs_ok (t := t) (s := s) (n := i) hj)
            rw [ltrs_len] at hlt
            have hp : 32 ^ i ≤ 32 ^ 8 := Nat.pow_le_pow_right (by omega) (by omega)
            have hp8 : (32 : Nat) ^ 8 = 2 ^ 40 := by decide
            rw [e21, w', show min i 8 = i by omega, shl5 (by omega) (by omega)] at e22
            show J (wI (wL μ' m 6 v22) m 3 (hI μ' m 3 + 1)) 0 0 27 [(0, .ref m)] []
            rw [v'.1, nI_1]
            refine nxt v22 ?_
            rw [e22, show min (i + 1) 8 = i + 1 by omega, ltrs_s, codM_app, a3, cl_nI (by omega)]
        · rw [runE_f q] at hi2
          exact stop i μ' hi2 W' v' w' (fun z => q z.2)
    refine key (len - s) 0 _ (by omega) heE (fun j hj => by omega) (((wFr.w 3 _ (by omega)).tt (wFr.w 5 _ (by omega))).tt (wFr.l 0)) ⟨?_, ?_, ?_⟩ ?_
    · show hI (wI (wI μ m 3 (nI s)) m 5 _) m 3 = _
      rw [hI_wI_s, upd_n _ (by decide), hI_wI_s, upd_s]; rfl
    · show hI (wI (wI μ m 3 (nI s)) m 5 _) m 4 = _
      rw [hI_wI_s, upd_n _ (by decide), hI_wI_s, upd_n _ (by decide)]; exact h.f4.mpr e
    · show hI (wI (wI μ m 3 (nI s)) m 5 _) m 5 = _
      rw [hI_wI_s, upd_s, hI_wI_s, upd_s]
    · rw [hL_wL_s, updL_s]; rfl
  · refine xCall_of (d' := d - 1) (Z := fun r μ' => r = none ∧ μ' = μ) (I_X12_word (fun J g hr => B_X12_word_0 g hr hs.1 ⟨fun q => absurd (h.f4.mp q) e, fun _ => ⟨rfl, rfl⟩⟩)) (by omega) ?_
    rintro r μ' ⟨rfl, rfl⟩
    unfold nxW at hK
    rw [if_neg e] at hK
    exact hK _ h wFr.rf (fun z => absurd z e)
end mrd
