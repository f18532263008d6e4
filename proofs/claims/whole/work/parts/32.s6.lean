/-! Reader: length 0, fault 1, start 2, at 3; its tape -/
def isRd (μ : Hp) (a b : Nat) : Prop := hS μ a = some (10, 5) ∧ hR μ a 4 = some b ∧ hS μ b = some (0, 400)
theorem isRd.ne {μ : Hp} {a b : Nat} (h : isRd μ a b) : a ≠ b := ne_of_sh h.1 h.2.2 (by decide)
theorem isRd.fr {μ μ' : Hp} {a b : Nat} {S : List Nat} (h : isRd μ a b) (hf : Fr S μ μ') : isRd μ' a b := ⟨by rw [hf.2.2.1]; exact h.1, by rw [hf.2.1]; exact h.2.1, by rw [hf.2.2.1]; exact h.2.2⟩
theorem c_begin {d : Nat} {ro : Nat → Nat} {μ : Hp} {a b : Nat} (h : isRd μ a b) :
    xC d yX6_begin cX6_begin 1 none 0 0 [.ref a] μ ro (fun r μ' => r = none ∧ μ' = wRow μ a (upd (upd (upd (hI μ a) 3 0) 2 0) 1 (-1))) :=
  I_X6_begin (fun J g hr => B_X6_begin_0 g hr h.1 ⟨rfl, by rw [wI_eq μ, wI_wRow, wI_wRow]⟩)
theorem c_fail {d : Nat} {ro : Nat → Nat} {μ : Hp} {a b : Nat} {x : Int32} (h : isRd μ a b) :
    xC d yX6_fail cX6_fail 2 none 0 0 [.ref a, .int x] μ ro (fun r μ' => r = none ∧ μ' = if hI μ a 1 = -1 then wI μ a 1 x else μ) :=
  I_X6_fail (fun J g hr => B_X6_fail_0 g hr h.1 ⟨fun h1 => ⟨rfl, by rw [if_neg h1]⟩, fun h1 => ⟨rfl, by rw [if_pos h1]⟩⟩)
/-- the first place from a on, m at most, where p fails -/
def runE (p : Nat → Bool) : Nat → Nat → Nat
  | 0, a => a
  | m + 1, a => if p a = true then runE p m (a + 1) else a
theorem runE_t {p : Nat → Bool} {m a : Nat} (h : p a = true) : runE p (m + 1) a = runE p m (a + 1) := by simp [runE, h]
theorem runE_f {p : Nat → Bool} {m a : Nat} (h : ¬ p a = true) : runE p (m + 1) a = a := by simp [runE, h]
theorem runE_ge (p : Nat → Bool) : ∀ m a, a ≤ runE p m a
  | 0, a => Nat.le_refl _
  | m + 1, a => by
    unfold runE
    split
    · exact Nat.le_trans (Nat.le_succ a) (runE_ge p m (a + 1))
    · exact Nat.le_refl _
theorem runE_le (p : Nat → Bool) : ∀ m a, runE p m a ≤ a + m
  | 0, a => Nat.le_refl _
  | m + 1, a => by
    unfold runE
    split
    · have := runE_le p m (a + 1); omega
    · omega
def isB (t : Nat → Int32) (j : Nat) : Bool := decide (t j = 32)
theorem c_skip {d : Nat} {ro : Nat → Nat} {μ : Hp} {a b len at_ : Nat} (h : isRd μ a b) (hl : hI μ a 0 = nI len) (hl4 : len ≤ 400) (hat : hI μ a 3 = nI at_) (ha : at_ ≤ len) :
    xC d yX6_skipBlanks cX6_skipBlanks 1 none 0 0 [.ref a] μ ro (fun r μ' => r = none ∧ μ' = wRow μ a (upd (upd (hI μ a) 3 (nI (runE (isB (hI μ b)) (len - at_) at_))) 2 (nI (runE (isB (hI μ b)) (len - at_) at_)))) := by
  have hne := h.ne
  obtain ⟨hs0, hr0, hs1⟩ := h
  refine I_X6_skipBlanks (fun J g hr => ?_)
  generalize he : runE (isB (hI μ b)) (len - at_) at_ = e at hr
  have key : ∀ m i, i + m = len → runE (isB (hI μ b)) m i = e → J (wRow μ a (upd (hI μ a) 3 (nI i))) 0 0 0 [(0, .ref a)] [] := by
    intro m
    induction m with
    | zero =>
      intro i hi hi2
      have hin : i = len := by omega
      subst hin
      refine B_X6_skipBlanks_0 g hr hs0 hr0 hs1 ?_
      rw [hI_wRow_s, upd_n _ (by decide), upd_s, hl]
      refine ⟨fun _ => ⟨rfl, ?_⟩, fun h => absurd (Int32.le_refl _) h⟩
      rw [wI_wRow, ← hi2]
      rfl
    | succ m ih =>
      intro i hi hi2
      refine B_X6_skipBlanks_0 g hr hs0 hr0 hs1 ?_
      rw [hI_wRow_s, upd_n _ (by decide), upd_s, hl, hI_wRow_n _ _ (Ne.symm hne), nI_clamp (by omega)]
      refine ⟨fun h => absurd h (nI_ge (by omega) (by omega)), fun _ => ⟨vp_in_nI (by omega) (by omega), fun h => ⟨rfl, ?_⟩, fun h => ?_⟩⟩
      · rw [wI_wRow, ← hi2, runE_f (by simp [isB, h])]
      · have := ih (i + 1) (by omega) (by rw [← hi2, runE_t (by simp [isB, h])])
        rw [wI_wRow, nI_1, show upd (upd (hI μ a) 3 (nI i)) 3 (nI (i + 1)) = upd (hI μ a) 3 (nI (i + 1)) from upd_upd _ _ _ _]
        exact this
  have := key (len - at_) at_ (by omega) he
  rw [show wRow μ a (upd (hI μ a) 3 (nI at_)) = μ by rw [← hat, upd_id]; exact wRow_id _ _] at this
  exact this
def isLt (t : Nat → Int32) (j : Nat) : Bool := decide (¬ t j < 97 ∧ ¬ 122 < t j)
def isDg (t : Nat → Int32) (j : Nat) : Bool := decide (¬ t j < 48 ∧ ¬ 57 < t j)
def cof (x : Int32) (i : Nat) : Int64 := ((x - 97) + 1).toInt64 <<< ((5 * nI i).toInt64 &&& 63)
/-- the code of the first m letters from s on, eight at most -/
def cdC (t : Nat → Int32) (s : Nat) : Nat → Int64
  | 0 => 0
  | m + 1 => if m < 8 then cdC t s m ||| cof (t (s + m)) m else cdC t s m
/-- where the next part begins; where a word, a number ends -/
def skE (t : Nat → Int32) (len at_ : Nat) : Nat := runE (isB t) (len - at_) at_
def wdE (t : Nat → Int32) (len at_ : Nat) : Nat := runE (isLt t) (len - skE t len at_) (skE t len at_)
def dgE (t : Nat → Int32) (len at_ : Nat) : Nat := runE (isDg t) (len - skE t len at_) (skE t len at_)
theorem skE_ge (t : Nat → Int32) (len at_ : Nat) : at_ ≤ skE t len at_ := runE_ge _ _ _
theorem skE_le (t : Nat → Int32) {len at_ : Nat} (h : at_ ≤ len) : skE t len at_ ≤ len := by have := runE_le (isB t) (len - at_) at_; unfold skE; omega
theorem wdE_ge (t : Nat → Int32) (len at_ : Nat) : skE t len at_ ≤ wdE t len at_ := runE_ge _ _ _
theorem wdE_le (t : Nat → Int32) {len at_ : Nat} (h : at_ ≤ len) : wdE t len at_ ≤ len := by have := runE_le (isLt t) (len - skE t len at_) (skE t len at_); have := skE_le t h; unfold wdE; omega
theorem dgE_ge (t : Nat → Int32) (len at_ : Nat) : skE t len at_ ≤ dgE t len at_ := runE_ge _ _ _
theorem dgE_le (t : Nat → Int32) {len at_ : Nat} (h : at_ ≤ len) : dgE t len at_ ≤ len := by have := runE_le (isDg t) (len - skE t len at_) (skE t len at_); have := skE_le t h; unfold dgE; omega
def rdF (f : Nat → Int32) (at_ st : Nat) : Nat → Int32 := upd (upd f 3 (nI at_)) 2 (nI st)
theorem rdF_0 (f : Nat → Int32) (a s : Nat) : rdF f a s 0 = f 0 := by simp [rdF, upd]
theorem rdF_1 (f : Nat → Int32) (a s : Nat) : rdF f a s 1 = f 1 := by simp [rdF, upd]
theorem rdF_2 (f : Nat → Int32) (a s : Nat) : rdF f a s 2 = nI s := by simp [rdF, upd]
theorem rdF_3 (f : Nat → Int32) (a s : Nat) : rdF f a s 3 = nI a := by simp [rdF, upd]
theorem rdF_u3 (f : Nat → Int32) (a s : Nat) (x : Nat) : upd (rdF f a s) 3 (nI x) = rdF f x s := by
  funext j
  by_cases h3 : j = 3 <;> by_cases h2 : j = 2 <;> simp [rdF, upd, h3, h2]
def rdX (f : Nat → Int32) (at_ st : Nat) (bad : Prop) [Decidable bad] : Nat → Int32 := if bad then upd (rdF f at_ st) 1 (nI st) else rdF f at_ st
theorem c_nextWord {d : Nat} {ro : Nat → Nat} {μ : Hp} {a b len at_ : Nat} (hd : 1 ≤ d) (h : isRd μ a b) (hl : hI μ a 0 = nI len) (hl4 : len ≤ 400) (hat : hI μ a 3 = nI at_) (ha : at_ ≤ len) (hf : hI μ a 1 = -1) :
    xC d yX6_nextWord cX6_nextWord 3 (some .long) 0 0 [.ref a] μ ro (fun r μ' => r = some (.long (cdC (hI μ b) (skE (hI μ b) len at_) (wdE (hI μ b) len at_ - skE (hI μ b) len at_))) ∧ μ' = wRow μ a (rdX (hI μ a) (wdE (hI μ b) len at_) (skE (hI μ b) len at_) (wdE (hI μ b) len at_ = skE (hI μ b) len at_ ∨ 8 < wdE (hI μ b) len at_ - skE (hI μ b) len at_))) := by
  have hne := h.ne
  have hrd := h
  obtain ⟨hs0, hr0, hs1⟩ := h
  refine I_X6_nextWord (fun J g hr => B_X6_nextWord_0 g hr hs0 ⟨fun _ => xCall_of (c_skip (d := d - 1) hrd hl hl4 hat ha) (by omega) ?_, fun h => absurd hf h⟩)
  rintro r μ1 ⟨rfl, rfl⟩
  refine ⟨rfl, ?_⟩
  have he1 := wdE_ge (hI μ b) len at_
  have he2 := wdE_le (hI μ b) ha
  have hs_le := skE_le (hI μ b) ha
  have heE : runE (isLt (hI μ b)) (len - skE (hI μ b) len at_) (skE (hI μ b) len at_) = wdE (hI μ b) len at_ := rfl
  show J (wRow μ a (rdF (hI μ a) (skE (hI μ b) len at_) (skE (hI μ b) len at_))) 0 0 16 [(0, .ref a), (1, .long 0)] []
  generalize skE (hI μ b) len at_ = s at hr he1 he2 hs_le heE ⊢
  generalize wdE (hI μ b) len at_ = e at hr he1 he2 heE
  have ex : J (wRow μ a (rdF (hI μ a) e s)) 0 0 106 [(0, .ref a), (1, .long (cdC (hI μ b) s (e - s)))] [] := by
    refine B_X6_nextWord_106 g hr hs0 ?_
    rw [hI_wRow_s, rdF_2, rdF_3]
    refine ⟨fun h => xCall_of (c_fail (d := d - 1) (b := b) hrd) (by omega) ?_, fun h => ⟨fun h8 => ⟨rfl, ?_⟩, fun h8 => xCall_of (c_fail (d := d - 1) (b := b) hrd) (by omega) ?_⟩⟩
    · rintro r μ2 ⟨rfl, rfl⟩
      refine ⟨rfl, rfl, ?_⟩
      rw [hI_wRow_s, rdF_1, if_pos hf, wI_wRow, rdX, if_pos (Or.inl ((nI_eq (by omega) (by omega)).mp h))]
    · have hes : e ≠ s := fun q => h (by rw [q])
      rw [pk_sub he1] at h8
      have h9 : e - s ≤ 8 := by
        rcases Nat.lt_or_ge 8 (e - s) with q | q
        · exact absurd h8 (nI_ge (a := 8) q (by omega))
        · exact q
      rw [rdX, if_neg (by omega)]
    · rintro r μ2 ⟨rfl, rfl⟩
      rw [pk_sub he1] at h8
      have h9 : 8 < e - s := by
        rcases Nat.lt_or_ge 8 (e - s) with q | q
        · exact q
        · exact absurd (nI_le (b := 8) q (by omega)) h8
      refine ⟨rfl, rfl, ?_⟩
      rw [hI_wRow_s, rdF_1, if_pos hf, wI_wRow, rdX, if_pos (Or.inr h9)]
  have key : ∀ m i, s + i + m = len → runE (isLt (hI μ b)) m (s + i) = e → J (wRow μ a (rdF (hI μ a) (s + i) s)) 0 0 16 [(0, .ref a), (1, .long (cdC (hI μ b) s i))] [] := by
    intro m
    induction m with
    | zero =>
      intro i hi hi2
      have hie : e = s + i := by rw [← hi2]; rfl
      have hil : s + i = len := by omega
      refine B_X6_nextWord_16 g hr hs0 hr0 hs1 hd ?_
      rw [hI_wRow_s, rdF_0, rdF_3, hl]
      refine ⟨fun _ => ?_, fun h => absurd (by rw [hil]; exact Int32.le_refl _) h⟩
      rw [hie, show s + i - s = i by omega] at ex
      exact ex
    | succ m ih =>
      intro i hi hi2
      refine B_X6_nextWord_16 g hr hs0 hr0 hs1 hd ?_
      rw [hI_wRow_s, rdF_0, rdF_3, rdF_2, hl, hI_wRow_n _ _ (Ne.symm hne), nI_clamp (by omega)]
      have stop : ¬ isLt (hI μ b) (s + i) = true → J (wRow μ a (rdF (hI μ a) (s + i) s)) 0 0 106 [(0, .ref a), (1, .long (cdC (hI μ b) s i))] [] := fun h => by
        have hie : e = s + i := by rw [← hi2, runE_f h]
        rw [hie, show s + i - s = i by omega] at ex
        exact ex
      refine ⟨fun h => absurd h (nI_ge (by omega) (by omega)), fun _ => ⟨vp_in_nI (by omega) (by omega), fun h => stop (by simp [isLt, h]), fun h1 => ⟨fun h => stop (by simp [isLt, h]), fun h2 => ?_⟩⟩⟩
      have go := ih (i + 1) (by omega) (by rw [← hi2, runE_t (by simp [isLt, h1, h2])]; congr 1)
      rw [pk_sub (by omega), show s + i - s = i by omega]
      refine ⟨fun h8 => ?_, fun h8 v8 e8 => ?_⟩
      · rw [wI_wRow, nI_1, rdF_u3]
        rw [show cdC (hI μ b) s (i + 1) = cdC (hI μ b) s i by
          rw [cdC, if_neg]
          intro q
          exact nI_ge (b := 8) q (by omega) h8] at go
        exact go
      · rw [wI_wRow, nI_1, rdF_u3, e8]
        rw [show cdC (hI μ b) s (i + 1) = cdC (hI μ b) s i ||| cof (hI μ b (s + i)) i by
          rw [cdC, if_pos]
          rcases Nat.lt_or_ge i 8 with q | q
          · exact q
          · exact absurd (nI_le (a := 8) q (by omega)) h8] at go
        exact go
  exact key (len - s) 0 (by omega) heE
def dgt (x : Int32) : Nat := x.toNatClampNeg - 48
/-- the number of m digits from s on, a million at most -/
def nmC (t : Nat → Int32) (s : Nat) : Nat → Nat
  | 0 => 0
  | m + 1 => min (nmC t s m * 10 + dgt (t (s + m))) 1000000
theorem nmC_le (t : Nat → Int32) (s : Nat) : ∀ m, nmC t s m ≤ 1000000
  | 0 => by simp [nmC]
  | m + 1 => by unfold nmC; exact Nat.min_le_right _ _
theorem dg_of {x : Int32} (h1 : ¬ x < 48) (h2 : ¬ 57 < x) : ∃ c, 48 ≤ c ∧ c ≤ 57 ∧ x = nI c := by
  obtain ⟨j, hj, rfl⟩ := nI_of (x := x) (fun q => h1 (Int32.lt_trans q (by decide)))
  refine ⟨j, ?_, ?_, rfl⟩
  · rcases Nat.lt_or_ge j 48 with q | q
    · exact absurd (nI_lt (b := 48) q (by omega)) h1
    · exact q
  · rcases Nat.lt_or_ge 57 j with q | q
    · exact absurd (nI_lt (a := 57) q (by omega)) h2
    · exact q
/-- the number that stands next; whether it can't be -/
def nmV (t : Nat → Int32) (len at_ : Nat) : Nat := nmC t (skE t len at_) (dgE t len at_ - skE t len at_)
abbrev nmBad (t : Nat → Int32) (len at_ lo hi : Nat) : Prop := dgE t len at_ = skE t len at_ ∨ nmV t len at_ < lo ∨ hi < nmV t len at_
theorem c_nextNumber {d : Nat} {ro : Nat → Nat} {μ : Hp} {a b len at_ lo hi : Nat} (hd : 1 ≤ d) (h : isRd μ a b) (hl : hI μ a 0 = nI len) (hl4 : len ≤ 400) (hat : hI μ a 3 = nI at_) (ha : at_ ≤ len) (hf : hI μ a 1 = -1) (hlo : lo ≤ 1000000) (hhi : hi < 1000000) :
    xC d yX6_nextNumber cX6_nextNumber 4 (some .int) 0 0 [.ref a, .int (nI lo), .int (nI hi)] μ ro (fun r μ' => r = some (.int (nI (if nmBad (hI μ b) len at_ lo hi then lo else nmV (hI μ b) len at_))) ∧ μ' = wRow μ a (rdX (hI μ a) (dgE (hI μ b) len at_) (skE (hI μ b) len at_) (nmBad (hI μ b) len at_ lo hi))) := by
  have hne := h.ne
  have hrd := h
  obtain ⟨hs0, hr0, hs1⟩ := h
  refine I_X6_nextNumber (fun J g hr => B_X6_nextNumber_0 g hr hs0 ⟨fun _ => xCall_of (c_skip (d := d - 1) hrd hl hl4 hat ha) (by omega) ?_, fun h => absurd hf h⟩)
  rintro r μ1 ⟨rfl, rfl⟩
  refine ⟨rfl, ?_⟩
  have he1 := dgE_ge (hI μ b) len at_
  have he2 := dgE_le (hI μ b) ha
  have hs_le := skE_le (hI μ b) ha
  have heE : runE (isDg (hI μ b)) (len - skE (hI μ b) len at_) (skE (hI μ b) len at_) = dgE (hI μ b) len at_ := rfl
  have hV : nmV (hI μ b) len at_ = nmC (hI μ b) (skE (hI μ b) len at_) (dgE (hI μ b) len at_ - skE (hI μ b) len at_) := rfl
  show J (wRow μ a (rdF (hI μ a) (skE (hI μ b) len at_) (skE (hI μ b) len at_))) 0 0 16 [(0, .ref a), (1, .int (nI lo)), (2, .int (nI hi)), (3, .int 0)] []
  unfold nmBad at hr
  generalize skE (hI μ b) len at_ = s at hr he1 he2 hs_le heE hV ⊢
  generalize dgE (hI μ b) len at_ = e at hr he1 he2 heE hV
  generalize nmV (hI μ b) len at_ = N at hr hV
  have hN : N ≤ 1000000 := by rw [hV]; exact nmC_le _ _ _
  have ex : J (wRow μ a (rdF (hI μ a) e s)) 0 0 91 [(0, .ref a), (1, .int (nI lo)), (2, .int (nI hi)), (3, .int (nI N))] [] := by
    refine B_X6_nextNumber_91 g hr hs0 ?_
    rw [hI_wRow_s, rdF_2, rdF_3]
    have bad : (e = s ∨ N < lo ∨ hi < N) → ∀ (r : Option Value) (μ2 : Hp), (r = none ∧ μ2 = if hI (wRow μ a (rdF (hI μ a) e s)) a 1 = -1 then wI (wRow μ a (rdF (hI μ a) e s)) a 1 (nI s) else wRow μ a (rdF (hI μ a) e s)) → r = none ∧ some (Value.int (nI lo)) = some (.int (nI (if e = s ∨ N < lo ∨ hi < N then lo else N))) ∧ μ2 = wRow μ a (rdX (hI μ a) e s (e = s ∨ N < lo ∨ hi < N)) := by
      rintro hb r μ2 ⟨rfl, rfl⟩
      refine ⟨rfl, by rw [if_pos hb], ?_⟩
      rw [hI_wRow_s, rdF_1, if_pos hf, wI_wRow, rdX, if_pos hb]
    refine ⟨fun h => xCall_of (c_fail (d := d - 1) (b := b) hrd) (by omega) (bad (Or.inl ((nI_eq (by omega) (by omega)).mp h))), fun h => ⟨fun h1 => xCall_of (c_fail (d := d - 1) (b := b) hrd) (by omega) (bad (Or.inr (Or.inl ((nI_ltI (by omega) (by omega)).mp h1)))), fun h1 => ⟨fun h2 => ?_, fun h2 => xCall_of (c_fail (d := d - 1) (b := b) hrd) (by omega) (bad (Or.inr (Or.inr ?_)))⟩⟩⟩
    · have hn : ¬ (e = s ∨ N < lo ∨ hi < N) := by
        rintro (q | q | q)
        · exact h (by rw [q])
        · exact h1 (nI_lt q (by omega))
        · exact nI_ge q (by omega) h2
      refine ⟨by rw [if_neg hn], ?_⟩
      rw [rdX, if_neg hn]
    · rcases Nat.lt_or_ge hi N with q | q
      · exact q
      · exact absurd (nI_le q (by omega)) h2
  rw [hV] at ex
  have key : ∀ m i, s + i + m = len → runE (isDg (hI μ b)) m (s + i) = e → J (wRow μ a (rdF (hI μ a) (s + i) s)) 0 0 16 [(0, .ref a), (1, .int (nI lo)), (2, .int (nI hi)), (3, .int (nI (nmC (hI μ b) s i)))] [] := by
    intro m
    induction m with
    | zero =>
      intro i hi0 hi2
      have hie : e = s + i := by rw [← hi2]; rfl
      have hil : s + i = len := by omega
      refine B_X6_nextNumber_16 g hr hs0 hr0 hs1 hd ?_
      rw [hI_wRow_s, rdF_0, rdF_3, hl]
      refine ⟨fun _ => ?_, fun h => absurd (by rw [hil]; exact Int32.le_refl _) h⟩
      rw [hie, show s + i - s = i by omega] at ex
      exact ex
    | succ m ih =>
      intro i hi0 hi2
      refine B_X6_nextNumber_16 g hr hs0 hr0 hs1 hd ?_
      rw [hI_wRow_s, rdF_0, rdF_3, hl, hI_wRow_n _ _ (Ne.symm hne), nI_clamp (by omega)]
      have stop : ¬ isDg (hI μ b) (s + i) = true → J (wRow μ a (rdF (hI μ a) (s + i) s)) 0 0 91 [(0, .ref a), (1, .int (nI lo)), (2, .int (nI hi)), (3, .int (nI (nmC (hI μ b) s i)))] [] := fun h => by
        have hie : e = s + i := by rw [← hi2, runE_f h]
        rw [hie, show s + i - s = i by omega] at ex
        exact ex
      refine ⟨fun h => absurd h (nI_ge (by omega) (by omega)), fun _ => ⟨vp_in_nI (by omega) (by omega), fun h => stop (by simp [isDg, h]), fun h1 => ⟨fun h => stop (by simp [isDg, h]), fun h2 v5 e5 => ?_⟩⟩⟩
      have go := ih (i + 1) (by omega) (by rw [← hi2, runE_t (by simp [isDg, h1, h2])]; congr 1)
      obtain ⟨c, hc1, hc2, hc3⟩ := dg_of h1 h2
      have hN := nmC_le (hI μ b) s i
      rw [hc3, show nI (nmC (hI μ b) s i) * 10 = nI (nmC (hI μ b) s i * 10) from pk_mul _ 10, nI_add, show nI (nmC (hI μ b) s i * 10 + c) - 48 = nI (nmC (hI μ b) s i * 10 + c - 48) from pk_sub (b := 48) (by omega)] at e5
      rw [wI_wRow, nI_1, rdF_u3]
      have hv : v5 = nI (nmC (hI μ b) s (i + 1)) := by
        rw [e5, nmC, hc3, dgt, nI_clamp (by omega), show nmC (hI μ b) s i * 10 + c - 48 = nmC (hI μ b) s i * 10 + (c - 48) by omega]
        exact min_lit 1000000 (by omega) (by omega)
      rw [hv]
      exact go
  exact key (len - s) 0 (by omega) heE
/-- behind goesOn -/
def goF (f t : Nat → Int32) (len s : Nat) : Nat → Int32 := if s < len then (if t s = 59 then rdF f (s + 1) s else upd (rdF f s s) 1 (nI s)) else rdF f s s
theorem c_goesOn {d : Nat} {ro : Nat → Nat} {μ : Hp} {a b len at_ : Nat} (hd : 1 ≤ d) (h : isRd μ a b) (hl : hI μ a 0 = nI len) (hl4 : len ≤ 400) (hat : hI μ a 3 = nI at_) (ha : at_ ≤ len) (hf : hI μ a 1 = -1) :
    xC d yX6_goesOn cX6_goesOn 1 (some .boolean) 0 0 [.ref a] μ ro (fun r μ' => r = some (.int (if skE (hI μ b) len at_ < len ∧ hI μ b (skE (hI μ b) len at_) = 59 then 1 else 0)) ∧ μ' = wRow μ a (goF (hI μ a) (hI μ b) len (skE (hI μ b) len at_))) := by
  have hne := h.ne
  have hrd := h
  obtain ⟨hs0, hr0, hs1⟩ := h
  refine I_X6_goesOn (fun J g hr => B_X6_goesOn_0 g hr hs0 ⟨fun _ => xCall_of (c_skip (d := d - 1) hrd hl hl4 hat ha) (by omega) ?_, fun h => absurd hf h⟩)
  rintro r μ1 ⟨rfl, hμ1⟩
  replace hμ1 : μ1 = wRow μ a (rdF (hI μ a) (skE (hI μ b) len at_) (skE (hI μ b) len at_)) := hμ1
  have hs_le := skE_le (hI μ b) ha
  generalize skE (hI μ b) len at_ = s at hr hs_le hμ1 ⊢
  subst hμ1
  refine ⟨rfl, hs0, ?_⟩
  rw [hI_wRow_s, rdF_0, rdF_3, hl]
  refine ⟨fun h => ⟨b, hr0, 400, hs1, ?_⟩, fun h => ?_⟩
  · have hsl : s < len := (nI_ltI (by omega) (by omega)).mp h
    rw [hI_wRow_n _ _ (Ne.symm hne), nI_clamp (by omega)]
    refine ⟨vp_in_nI (by omega) (by omega), fun h1 => ⟨by rw [if_pos ⟨hsl, h1⟩], ?_⟩, fun h1 => xCall_of (c_fail (d := d - 1) (b := b) hrd) (by omega) ?_⟩
    · rw [wI_wRow, nI_1, rdF_u3, goF, if_pos hsl, if_pos h1]
    · rintro r μ2 ⟨rfl, rfl⟩
      refine ⟨rfl, by rw [if_neg (fun q => h1 q.2)], ?_⟩
      rw [hI_wRow_s, rdF_1, if_pos hf, wI_wRow, goF, if_pos hsl, if_neg h1]
  · have hsl : ¬ s < len := fun q => h (nI_lt q (by omega))
    exact ⟨by rw [if_neg (fun q => hsl q.1)], by rw [goF, if_neg hsl]⟩
