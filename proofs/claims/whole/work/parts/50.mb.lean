/-! the model: its rows, and how they stand to the class's -/
def mTab : List (Nat × Nat × Nat) := [(1, 1, 400), (7, 0, 18), (8, 0, 18), (9, 0, 16), (10, 0, 16), (11, 0, 132), (12, 0, 132), (13, 0, 80), (14, 0, 4), (15, 2, 6), (16, 2, 6), (17, 2, 8), (18, 2, 8), (28, 0, 300), (29, 0, 5), (30, 0, 293), (31, 0, 293), (32, 0, 293), (33, 0, 11720), (43, 0, 6), (44, 0, 5), (45, 0, 5), (46, 0, 5), (47, 0, 5), (48, 0, 5), (49, 0, 5), (55, 0, 6), (63, 1, 160)]
def mK : List Nat := mTab.map (fun q => q.1)
/-- the model at m has its k-th row at X k -/
def mSh (μ : Hp) (m : Nat) (X : Nat → Nat) : Prop := hS μ m = some (15, 65) ∧ ∀ q, q ∈ mTab → hR μ m q.1 = some (X q.1) ∧ hS μ (X q.1) = some (q.2.1, q.2.2)
def mInj (X : Nat → Nat) : Prop := ∀ i j, i ∈ mK → j ∈ mK → X i = X j → i = j
theorem mInj.ne {X : Nat → Nat} (h : mInj X) (i j : Nat) (hi : i ∈ mK := by decide) (hj : j ∈ mK := by decide) (hij : i ≠ j := by decide) : X i ≠ X j := fun e => hij (h i j hi hj e)
theorem mSh.r {μ : Hp} {m : Nat} {X : Nat → Nat} (h : mSh μ m X) (k kd n : Nat) (hk : (k, kd, n) ∈ mTab := by decide) : hR μ m k = some (X k) := (h.2 (k, kd, n) hk).1
theorem mSh.s {μ : Hp} {m : Nat} {X : Nat → Nat} (h : mSh μ m X) (k kd n : Nat) (hk : (k, kd, n) ∈ mTab := by decide) : hS μ (X k) = some (kd, n) := (h.2 (k, kd, n) hk).2
theorem mSh.ne {μ : Hp} {m : Nat} {X : Nat → Nat} (h : mSh μ m X) (k : Nat) (hk : k ∈ mK := by decide) : X k ≠ m := by
  obtain ⟨q, hq, rfl⟩ := List.mem_map.mp hk
  have hs := (h.2 q hq).2
  have : q.2.1 ≠ 15 := by
    have : ∀ q, q ∈ mTab → q.2.1 ≠ 15 := by decide
    exact this q hq
  exact ne_of_sh hs h.1 this
theorem mSh.of {μ μ' : Hp} {m : Nat} {X : Nat → Nat} (h : mSh μ m X) (h1 : hS μ' = hS μ) (h2 : hR μ' = hR μ) : mSh μ' m X := by
  unfold mSh at h ⊢
  rw [h1, h2]
  exact h
/-- the book's numbers -/
def mBk (μ : Hp) (m : Nat) (X : Nat → Nat) (lw lo tr : Nat → Int32) (nl nf nt : Nat) : Prop :=
  (hI μ m 20 = nI nl ∧ hI μ m 22 = nI nf ∧ hI μ m 24 = nI nt) ∧ (∀ l c, l < nl → c < 3 → hI μ (X 8) (3 * l + c) = lw (c * 6 + l)) ∧ (∀ j, j < nf → hI μ (X 10) (2 * j) = lo j) ∧
  ∀ t, t < nt → hI μ (X 12) (11 * t) = tr (96 + t) ∧ hI μ (X 12) (11 * t + 1) = tr (108 + t) ∧ (∀ c, c < 8 → hI μ (X 12) (11 * t + 2 + c) = tr (12 * c + t)) ∧ hI μ (X 12) (11 * t + 10) = tr (120 + t)
/-- a model's row g and a class's row f, but for the year and what was got and taken -/
def rwL (g f : Nat → Int32) (n : Nat) : Prop := g 31 = nI n ∧ f 1 = nI n ∧ (∀ j, j < 8 → g (8 + j) = f (2 + j) ∧ g j = f (10 + j)) ∧ ∀ k c, k < n → c < 5 → g (32 + 5 * k + c) = f (32 + 16 * c + k)
/-- all that a search of the model reads -/
def mCx (μ : Hp) (m : Nat) (X : Nat → Nat) (wi : Nat) (f lw lo tr : Nat → Int32) (n nl nf nt : Nat) (p q : Int32) : Prop :=
  (mSh μ m X ∧ mInj X ∧ (wi = 30 ∨ wi = 31)) ∧ mBk μ m X lw lo tr nl nf nt ∧ rwL (hI μ (X wi)) f n ∧ (hI μ m 37 = f 0 ∧ hI μ m 38 = p ∧ hI μ m 39 = q) ∧ rowOK f n nf nl ∧ bookOK lw lo tr nl nf nt
def mFr (m : Nat) (X : Nat → Nat) (μ μ' : Hp) : Prop := Fr [m, X 43, X 44, X 45, X 46, X 47, X 48, X 49, X 55] μ μ' ∧ ∀ k, k < 41 ∨ 58 < k → hI μ' m k = hI μ m k
theorem mFr.rf {m : Nat} {X : Nat → Nat} {μ : Hp} : mFr m X μ μ := ⟨Fr.rf, fun _ _ => rfl⟩
theorem mFr.tt {m : Nat} {X : Nat → Nat} {μ μ1 μ2 : Hp} (h1 : mFr m X μ μ1) (h2 : mFr m X μ1 μ2) : mFr m X μ μ2 := ⟨h1.1.tt h2.1, fun k hk => (h2.2 k hk).trans (h1.2 k hk)⟩
theorem mFr.f {m : Nat} {X : Nat → Nat} {μ μ1 : Hp} (h : mFr m X μ μ1) (k : Nat) (x : Int32) (hk : 41 ≤ k ∧ k ≤ 58 := by decide) : mFr m X μ (wI μ1 m k x) :=
  ⟨h.1.w1 (by simp), fun j hj => by rw [hI_wI_s, upd_n _ (by omega)]; exact h.2 j hj⟩
theorem mFr.x {m : Nat} {X : Nat → Nat} {μ μ1 : Hp} (h : mFr m X μ μ1) (i k : Nat) (x : Int32) (hne : X i ≠ m) (hk : i ∈ [43, 44, 45, 46, 47, 48, 49, 55] := by decide) : mFr m X μ (wI μ1 (X i) k x) :=
  ⟨h.1.w1 (by simp only [List.mem_cons, List.not_mem_nil, or_false] at hk ⊢; rcases hk with rfl | rfl | rfl | rfl | rfl | rfl | rfl | rfl <;> simp), fun j hj => by rw [hI_wI_n _ _ _ (Ne.symm hne)]; exact h.2 j hj⟩
theorem mFr.o {m : Nat} {X : Nat → Nat} {μ μ1 : Hp} (h : mFr m X μ μ1) (hs : mSh μ m X) (hi : mInj X) (i : Nat) (hk : i ∈ mK ∧ i ∉ [43, 44, 45, 46, 47, 48, 49, 55] := by decide) : hI μ1 (X i) = hI μ (X i) := by
  refine h.1.2.2.2 _ ?_
  have hx : ∀ j, j ∈ [43, 44, 45, 46, 47, 48, 49, 55] → j ∈ mK → X i ≠ X j := fun j hj hj2 e => by
    have := hi i j hk.1 hj2 e
    subst this
    exact hk.2 hj
  simp only [List.mem_cons, List.not_mem_nil, or_false, not_or]
  exact ⟨hs.ne i hk.1, hx 43 (by decide) (by decide), hx 44 (by decide) (by decide), hx 45 (by decide) (by decide), hx 46 (by decide) (by decide), hx 47 (by decide) (by decide), hx 48 (by decide) (by decide), hx 49 (by decide) (by decide), hx 55 (by decide) (by decide)⟩
theorem mCx.fr {μ μ' : Hp} {m : Nat} {X : Nat → Nat} {wi : Nat} {f lw lo tr : Nat → Int32} {n nl nf nt : Nat} {p q : Int32} (h : mCx μ m X wi f lw lo tr n nl nf nt p q) (hF : mFr m X μ μ') : mCx μ' m X wi f lw lo tr n nl nf nt p q := by
  obtain ⟨⟨h1, h2, h3⟩, ⟨b1, b2, b3, b4⟩, h5, h6, h7, h8⟩ := h
  have hw : hI μ' (X wi) = hI μ (X wi) := by
    rcases h3 with rfl | rfl
    · exact hF.o h1 h2 30
    · exact hF.o h1 h2 31
  refine ⟨⟨h1.of hF.1.2.2.1 hF.1.2.1, h2, h3⟩, ⟨?_, ?_, ?_, ?_⟩, ?_, ?_, h7, h8⟩
  · rw [hF.2 20 (by decide), hF.2 22 (by decide), hF.2 24 (by decide)]; exact b1
  · rw [hF.o h1 h2 8]; exact b2
  · rw [hF.o h1 h2 10]; exact b3
  · rw [hF.o h1 h2 12]; exact b4
  · rw [hw]; exact h5
  · rw [hF.2 37 (by decide), hF.2 38 (by decide), hF.2 39 (by decide)]; exact h6
def oM (g : Nat → Nat) : Option Nat → Int32
  | none => -1
  | some k => nI (g k)
theorem oM_ne {g : Nat → Nat} {k : Nat} (hk : g k < 2147483648) : ¬ oM g (some k) = -1 := oI_ne (k := g k) hk
theorem i_mul (c i : Nat) : Int32.ofNat c * nI i = nI (c * i) := pk_mul c i
theorem c_mTreatyOf {d : Nat} {ro : Nat → Nat} {μ : Hp} {m : Nat} {X : Nat → Nat} {lw lo tr : Nat → Int32} {nl nf nt l k : Nat} {y : Int32} (hd : 1 ≤ d) (hs : mSh μ m X) (hb : mBk μ m X lw lo tr nl nf nt) (hnt : nt ≤ 12) :
    xC d yX12_treatyOf cX12_treatyOf 8 (some .int) 0 0 [.ref m, .int (nI l), .int (nI k), .int y] μ ro (fun r μ' => r = some (.int (oM (fun t => 11 * t) (tAf tr nt y (hI μ m 38) (hI μ m 39) l k))) ∧ μ' = μ) := by
  obtain ⟨⟨-, -, hn⟩, -, -, ht⟩ := hb
  have hr0 := hs.r 12 0 132
  have hs1 := hs.s 12 0 132
  have hs0 := hs.1
  refine I_X12_treatyOf (fun J g hr => B_X12_treatyOf_0 g hr hs0 hd ?_)
  generalize hone : (fun t => tr (96 + t)) = one
  generalize hoth : (fun t => tr (108 + t)) = oth
  generalize hfrm : (fun t => tr (0 + t)) = frm
  generalize hend : (fun t => tr (120 + t)) = ends
  have i1 : ∀ t, t < nt → hI μ (X 12) (11 * t) = one t := fun t h => by rw [← hone]; exact (ht t h).1
  have i2 : ∀ t, t < nt → hI μ (X 12) (11 * t + 1) = oth t := fun t h => by rw [← hoth]; exact (ht t h).2.1
  have i3 : ∀ t, t < nt → hI μ (X 12) (11 * t + 2) = frm t := fun t h => by rw [← hfrm]; have := (ht t h).2.2.1 0 (by omega); simpa using this
  have i4 : ∀ t, t < nt → hI μ (X 12) (11 * t + 10) = ends t := fun t h => by rw [← hend]; exact (ht t h).2.2.2
  have hres : tAf tr nt y (hI μ m 38) (hI μ m 39) l k = if lapB (hI μ m 38) (hI μ m 39) l k = true then none else trR ends (trF one oth frm (nI l) (nI k) y nt) := by
    rw [← hone, ← hoth, ← hfrm, ← hend]; rfl
  rw [hres] at hr
  generalize ha : nI l = a at hr ⊢
  generalize hb' : nI k = b at hr ⊢
  have lap : lapB (hI μ m 38) (hI μ m 39) l k = true ↔ ((a = hI μ m 38 ∧ b = hI μ m 39) ∨ (a = hI μ m 39 ∧ b = hI μ m 38)) := by
    rw [← ha, ← hb']; simp [lapB]
  have zyes : ((a = hI μ m 38 ∧ b = hI μ m 39) ∨ (a = hI μ m 39 ∧ b = hI μ m 38)) → some (Value.int (-1)) = some (.int (oM (fun t => 11 * t) (tAf tr nt y (hI μ m 38) (hI μ m 39) l k))) ∧ μ = μ := fun h => by
    rw [hres, if_pos (lap.mpr h)]; exact ⟨rfl, rfl⟩
  have main : ¬ ((a = hI μ m 38 ∧ b = hI μ m 39) ∨ (a = hI μ m 39 ∧ b = hI μ m 38)) → J μ 0 0 17 [(0, .ref m), (1, .int a), (2, .int b), (3, .int y), (4, .int (-1)), (5, .int 0)] [] := fun hno => by
    rw [if_neg (fun q => hno (lap.mp q))] at hr
    refine loopUp (Q := fun i => J μ 0 0 17 [(0, .ref m), (1, .int a), (2, .int b), (3, .int y), (4, .int (oM (fun t => 11 * t) (trF one oth frm a b y i))), (5, .int (nI i))] []) nt ?_ (fun i hi ih => ?_) 0 (Nat.zero_le _)
    · refine B_X12_treatyOf_17 g hr hs0 hr0 hs1 ⟨fun _ => ?_, fun h => absurd (by rw [hn]; exact Int32.le_refl _) h⟩
      cases hp : trF one oth frm a b y nt with
      | none => exact ⟨fun _ => ⟨rfl, rfl⟩, fun h => absurd rfl h⟩
      | some t =>
        have ht := trF_lt hp
        refine ⟨fun h => absurd h (oM_ne (by omega)), fun _ => ?_⟩
        rw [show oM (fun t => 11 * t) (some t) + 10 = nI (11 * t + 10) from nI_add _ 10, nI_clamp (by omega), i4 t ht]
        refine ⟨vp_in_nI (by omega) (by omega), fun h => ⟨?_, rfl⟩, fun h => ⟨?_, rfl⟩⟩
        · simp [trR, h]
        · simp [trR, h, oM]
    · have yes : trOk one oth frm a b y (trF one oth frm a b y i) i = true → J μ 0 0 17 [(0, .ref m), (1, .int a), (2, .int b), (3, .int y), (4, .int (nI (11 * i))), (5, .int (nI i + 1))] [] := fun h => by
        have : trF one oth frm a b y (i + 1) = some i := by rw [trF, if_pos h]
        rw [nI_1]
        rw [this] at ih
        exact ih
      have no : ¬ trOk one oth frm a b y (trF one oth frm a b y i) i = true → J μ 0 0 17 [(0, .ref m), (1, .int a), (2, .int b), (3, .int y), (4, .int (oM (fun t => 11 * t) (trF one oth frm a b y i))), (5, .int (nI i + 1))] [] := fun h => by
        have : trF one oth frm a b y (i + 1) = trF one oth frm a b y i := by rw [trF, if_neg h]
        rw [nI_1]
        rw [this] at ih
        exact ih
      have early : ¬ ((one i = a ∧ oth i = b) ∨ (one i = b ∧ oth i = a)) → ¬ trOk one oth frm a b y (trF one oth frm a b y i) i = true := fun h => by simp [trOk, h]
      have late : y < frm i → ¬ trOk one oth frm a b y (trF one oth frm a b y i) i = true := fun h => by simp [trOk, h]
      have e2 : nI (11 * i) + 2 = nI (11 * i + 2) := nI_add _ 2
      have e1 : nI (11 * i) + 1 = nI (11 * i + 1) := nI_add _ 1
      have m11 : (11 : Int32) * nI i = nI (11 * i) := i_mul 11 i
      have fin : ((one i = a ∧ oth i = b) ∨ (one i = b ∧ oth i = a)) → J μ 0 0 81 [(0, .ref m), (1, .int a), (2, .int b), (3, .int y), (4, .int (oM (fun t => 11 * t) (trF one oth frm a b y i))), (5, .int (nI i)), (6, .int (nI (11 * i)))] [] := fun h1 => by
        refine B_X12_treatyOf_81 g hr hs0 hr0 hs1 ?_
        rw [e2, nI_clamp (by omega), i3 i hi]
        refine ⟨vp_in_nI (by omega) (by omega), fun h => no (late h), fun h2 => ?_⟩
        cases hp : trF one oth frm a b y i with
        | none =>
          refine ⟨fun _ => yes ?_, fun h => absurd rfl h⟩
          rw [hp]; simp [trOk, h1, h2]
        | some t =>
          have ht := trF_lt hp
          refine ⟨fun h => absurd h (oM_ne (by omega)), fun _ => ?_⟩
          rw [show oM (fun t => 11 * t) (some t) + 2 = nI (11 * t + 2) from nI_add _ 2, nI_clamp (by omega), i3 t (by omega)]
          refine ⟨vp_in_nI (by omega) (by omega), fun h => ?_, fun h => yes ?_⟩
          · have := no (by rw [hp]; simp [trOk, h])
            rw [hp] at this
            exact this
          · rw [hp]; simp [trOk, h1, h2, h]
      have b57 : ¬ (one i = a ∧ oth i = b) → J μ 0 0 57 [(0, .ref m), (1, .int a), (2, .int b), (3, .int y), (4, .int (oM (fun t => 11 * t) (trF one oth frm a b y i))), (5, .int (nI i)), (6, .int (nI (11 * i)))] [] := fun h0 => by
        refine B_X12_treatyOf_57 g hr hs0 hr0 hs1 ?_
        rw [e1, nI_clamp (by omega), nI_clamp (by omega), i1 i hi, i2 i hi]
        refine ⟨vp_in_nI (by omega) (by omega), fun h => B_X12_treatyOf_85 g hr (no (early ?_)), fun h1 => ⟨vp_in_nI (by omega) (by omega), fun h => B_X12_treatyOf_85 g hr (no (early ?_)), fun h2 => fin (Or.inr ⟨h1, h2⟩)⟩⟩
        · rintro (q | q)
          · exact h0 q
          · exact h q.1
        · rintro (q | q)
          · exact h0 q
          · exact h q.2
      refine B_X12_treatyOf_17 g hr hs0 hr0 hs1 ⟨fun h => absurd h (by rw [hn]; exact nI_ge hi (by omega)), fun _ => ?_⟩
      rw [m11, e1, nI_clamp (by omega), nI_clamp (by omega), i1 i hi, i2 i hi]
      exact ⟨vp_in_nI (by omega) (by omega), fun h => b57 (fun q => h q.1), fun h1 => ⟨vp_in_nI (by omega) (by omega), fun h2 => fin (Or.inl ⟨h1, h2⟩), fun h => b57 (fun q => h q.2)⟩⟩
  refine ⟨fun h => ⟨fun h2 => main ?_, fun h2 => ⟨fun h3 => main ?_, fun h3 => zyes (Or.inr ⟨h2, h3⟩)⟩⟩, fun h => ⟨fun h2 => zyes (Or.inl ⟨h, h2⟩), fun h2 => ⟨fun h3 => main ?_, fun h3 => ⟨fun h4 => main ?_, fun h4 => zyes (Or.inr ⟨h3, h4⟩)⟩⟩⟩⟩
  · rintro (q | q)
    · exact h q.1
    · exact h2 q.1
  · rintro (q | q)
    · exact h q.1
    · exact h3 q.2
  · rintro (q | q)
    · exact h2 q.2
    · exact h3 q.1
  · rintro (q | q)
    · exact h2 q.2
    · exact h4 q.2
/-! links -/
theorem fstP_spec {p : Nat → Bool} : ∀ {m i k : Nat}, fstP p i m = some k → (i ≤ k ∧ k < i + m) ∧ p k = true ∧ ∀ j, i ≤ j → j < k → ¬ p j = true
  | 0, _, _, h => by simp [fstP] at h
  | m + 1, i, k, h => by
    unfold fstP at h
    by_cases hp : p i = true
    · rw [if_pos hp] at h
      cases h
      exact ⟨⟨Nat.le_refl _, by omega⟩, hp, fun j h1 h2 => by omega⟩
    · rw [if_neg hp] at h
      obtain ⟨h1, h2, h3⟩ := fstP_spec h
      refine ⟨⟨by omega, by omega⟩, h2, fun j h4 h5 => ?_⟩
      by_cases hj : j = i
      · subst hj; exact hp
      · exact h3 j (by omega) h5
theorem fstP_none {p : Nat → Bool} : ∀ {m i : Nat}, fstP p i m = none → ∀ j, i ≤ j → j < i + m → ¬ p j = true
  | 0, _, _, _, h1, h2 => by omega
  | m + 1, i, h, j, h1, h2 => by
    unfold fstP at h
    by_cases hp : p i = true
    · rw [if_pos hp] at h
      cases h
    · rw [if_neg hp] at h
      by_cases hj : j = i
      · subst hj; exact hp
      · exact fstP_none h j (by omega) (by omega)
theorem lstU_none {p : Nat → Bool} : ∀ {n : Nat}, (∀ j, j < n → ¬ p j = true) → lstU p n = none
  | 0, _ => rfl
  | n + 1, h => by
    rw [lstU, if_neg (h n (by omega))]
    exact lstU_none (fun j hj => h j (by omega))
theorem lstU_uniq {p : Nat → Bool} {k : Nat} : ∀ {n : Nat}, k < n → p k = true → (∀ j, j < n → p j = true → j = k) → lstU p n = some k
  | 0, h, _, _ => by omega
  | n + 1, h, hk, hu => by
    unfold lstU
    by_cases hp : p n = true
    · rw [if_pos hp, hu n (by omega) hp]
    · rw [if_neg hp]
      refine lstU_uniq ?_ hk (fun j hj => hu j (by omega))
      rcases Nat.lt_or_ge k n with q | q
      · exact q
      · have : k = n := by omega
        subst this
        exact absurd hk hp
/-- the hop's link: the first of its two firms, if its year has come -/
theorem lk_fst {f : Nat → Int32} {n nf nl : Nat} (hr : rowOK f n nf nl) {s : Int32} {u v : Nat} : lstU (hpP f s u v) n = (match fstP (lkP f s (nI v) (nI u)) 0 n with
    | none => none
    | some k => if f 0 < f (96 + k) then none else some k) := by
  cases hc : fstP (lkP f s (nI v) (nI u)) 0 n with
  | none =>
    refine lstU_none (fun j hj hp => fstP_none hc j (by omega) (by omega) ?_)
    simp only [hpP, decide_eq_true_eq] at hp
    simp [lkP, hp]
  | some k =>
    obtain ⟨⟨-, hk⟩, hp, -⟩ := fstP_spec hc
    simp only [lkP, decide_eq_true_eq] at hp
    have un : ∀ j, j < n → hpP f s u v j = true → j = k := fun j hj hq => by
      simp only [hpP, decide_eq_true_eq] at hq
      exact hr.2.2.1 j k hj (by omega) (by rw [hq.1, hp.1]) (by rw [hq.2.2.2, hp.2.1]) (by rw [hq.2.2.1, hp.2.2])
    simp only []
    by_cases hy : f 0 < f (96 + k)
    · rw [if_pos hy]
      refine lstU_none (fun j hj hq => ?_)
      have := un j hj hq
      subst this
      simp only [hpP, decide_eq_true_eq] at hq
      exact hq.2.1 hy
    · rw [if_neg hy]
      refine lstU_uniq (by omega) ?_ un
      simp [hpP, hp, hy]
theorem c_mLinkOf {d : Nat} {ro : Nat → Nat} {μ : Hp} {w n : Nat} {f : Nat → Int32} {s a b : Int32} (hd : 1 ≤ d) (hw : hS μ w = some (0, 293)) (hr : rwL (hI μ w) f n) (hn16 : n ≤ 16) :
    xC d yX12_linkOf cX12_linkOf 5 (some .int) 0 0 [.ref w, .int s, .int a, .int b] μ ro (fun r μ' => r = some (.int (oI (fstP (lkP f s a b) 0 n))) ∧ μ' = μ) := by
  obtain ⟨hn, -, -, hk⟩ := hr
  refine I_X12_linkOf (fun J g hr => B_X12_linkOf_0 g hr ?_)
  have key : ∀ m i, i + m = n → fstP (lkP f s a b) i m = fstP (lkP f s a b) 0 n → J μ 0 0 3 [(0, .ref w), (1, .int s), (2, .int a), (3, .int b), (4, .int (nI i))] [] := by
    intro m
    induction m with
    | zero =>
      intro i hi he
      have hin : i = n := by omega
      subst hin
      refine B_X12_linkOf_3 g hr hw hd ⟨lit_in 31 (by omega) (by omega), fun _ => ⟨?_, rfl⟩, fun h => absurd ?_ h⟩
      · rw [← he]; rfl
      · rw [hn]; exact Int32.le_refl _
    | succ m ih =>
      intro i hi he
      have m5 : (32 : Int32) + 5 * nI i = nI (32 + 5 * i) := by rw [show (5 : Int32) * nI i = nI (5 * i) from i_mul 5 i]; exact i_off 32 _
      have e1 : nI (32 + 5 * i) + 1 = nI (32 + 5 * i + 1) := nI_add _ 1
      have e2 : nI (32 + 5 * i) + 2 = nI (32 + 5 * i + 2) := nI_add _ 2
      have k0 := hk i 0 (by omega) (by omega)
      have k1 := hk i 1 (by omega) (by omega)
      have k2 := hk i 2 (by omega) (by omega)
      rw [Nat.add_zero] at k0
      have nx : ¬ lkP f s a b i = true → J μ 0 0 3 [(0, .ref w), (1, .int s), (2, .int a), (3, .int b), (4, .int (nI i + 1))] [] := by
        intro hf
        have := ih (i + 1) (by omega) (by rw [← he, fstP_f hf])
        rw [← nI_1] at this
        exact this
      refine B_X12_linkOf_3 g hr hw hd ⟨lit_in 31 (by omega) (by omega), fun h => ?_, fun _ => ?_⟩
      · rw [hn] at h
        exact absurd h (nI_ge (by omega) (by omega))
      · rw [m5, e1, e2, nI_clamp (by omega), nI_clamp (by omega), nI_clamp (by omega), k0, k1, k2]
        refine ⟨vp_in_nI (by omega) (by omega), fun h => nx (fun q => ?_), fun h1 => ⟨vp_in_nI (by omega) (by omega), fun h => nx (fun q => ?_), fun h2 => ⟨vp_in_nI (by omega) (by omega), fun h => nx (fun q => ?_), fun h3 => ⟨?_, rfl⟩⟩⟩⟩
        · simp only [lkP, decide_eq_true_eq] at q; exact h q.1
        · simp only [lkP, decide_eq_true_eq] at q; exact h q.2.1
        · simp only [lkP, decide_eq_true_eq] at q; exact h q.2.2
        · rw [← he, fstP_t (by simp only [lkP, decide_eq_true_eq]; exact ⟨h1, h2, h3⟩)]
          rfl
  exact key n 0 (by omega) rfl
theorem c_mHopOf {d : Nat} {ro : Nat → Nat} {μ : Hp} {m : Nat} {X : Nat → Nat} {wi : Nat} {f lw lo tr : Nat → Int32} {n nl nf nt u v : Nat} {p q s : Int32} (hd : 2 ≤ d) (h : mCx μ m X wi f lw lo tr n nl nf nt p q) :
    xC d yX12_hopOf cX12_hopOf 6 (some .int) 0 0 [.ref m, .ref (X wi), .int s, .int (nI u), .int (nI v)] μ ro (fun r μ' => r = some (.int (oM (fun k => 32 + 5 * k) (lstU (hpP f s u v) n))) ∧ μ' = μ) := by
  obtain ⟨⟨hs, hi, hwi⟩, -, hrw, ⟨hy, -, -⟩, hr0, -⟩ := h
  have hn16 := hr0.1.2.1
  have hw : hS μ (X wi) = some (0, 293) := by
    rcases hwi with rfl | rfl
    · exact hs.s 30 0 293
    · exact hs.s 31 0 293
  refine I_X12_hopOf (fun J g hr => B_X12_hopOf_0 g hr (by omega) (xCall_of (c_mLinkOf (d := d - 1) (by omega) hw hrw hn16) (by omega) ?_))
  rintro r μ' ⟨rfl, rfl⟩
  refine ⟨_, rfl, ?_⟩
  rw [lk_fst hr0] at hr ⊢
  cases hc : fstP (lkP f s (nI v) (nI u)) 0 n with
  | none => rw [hc] at hr; exact ⟨fun _ => ⟨rfl, rfl⟩, fun h => absurd rfl h⟩
  | some k =>
    obtain ⟨⟨-, hk⟩, -, -⟩ := fstP_spec hc
    refine ⟨fun h => absurd h (oI_ne (by omega)), fun _ => ⟨293, hw, ?_⟩⟩
    have m5 : (32 : Int32) + 5 * oI (some k) = nI (32 + 5 * k) := by rw [show (5 : Int32) * oI (some k) = nI (5 * k) from i_mul 5 k]; exact i_off 32 _
    have e4 : nI (32 + 5 * k) + 4 = nI (32 + 5 * k + 4) := nI_add _ 4
    have k4 := hrw.2.2.2 k 4 (by omega) (by omega)
    rw [m5, e4, nI_clamp (by omega), k4, hy]
    refine ⟨vp_in_nI (by omega) (by omega), hs.1, fun h => ⟨?_, rfl⟩, fun h => ⟨?_, rfl⟩⟩
    · simp only []
      rw [if_neg (fun q => Int32.not_le.mpr q h)]
      rfl
    · simp only []
      rw [if_pos (Int32.not_le.mp h)]
      rfl
