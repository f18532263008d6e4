/-! reading a tape: letters, codes, cursors (fault, start, place) -/
theorem runE_all (p : Nat → Bool) : ∀ m a j, a ≤ j → j < runE p m a → p j = true
  | 0, a, j, h1, h2 => by simp only [runE] at h2; omega
  | m + 1, a, j, h1, h2 => by
    unfold runE at h2
    by_cases c : p a = true
    · rw [if_pos c] at h2
      rcases Nat.lt_or_ge a j with q | q
      · exact runE_all p m (a + 1) j q h2
      · rw [show j = a by omega]; exact c
    · rw [if_neg c] at h2; omega
theorem runE_stop (p : Nat → Bool) : ∀ m a, runE p m a < a + m → ¬ p (runE p m a) = true
  | 0, a, h => by simp only [runE] at h; omega
  | m + 1, a, h => by
    unfold runE at h ⊢
    by_cases c : p a = true
    · rw [if_pos c] at h ⊢; exact runE_stop p m (a + 1) (by omega)
    · rw [if_neg c]; exact c
theorem runE_congr {p q : Nat → Bool} : ∀ m a, (∀ j, a ≤ j → j < a + m → p j = q j) → runE p m a = runE q m a
  | 0, _, _ => rfl
  | m + 1, a, h => by
    unfold runE
    rw [h a (Nat.le_refl _) (by omega), runE_congr m (a + 1) (fun j h1 h2 => h j (by omega) (by omega))]
theorem lt_of {x : Int32} (h1 : ¬ x < 97) (h2 : ¬ 122 < x) : ∃ c, 97 ≤ c ∧ c ≤ 122 ∧ x = nI c := by
  obtain ⟨j, hj, rfl⟩ := nI_of (x := x) (fun q => h1 (Int32.lt_trans q (by decide)))
  refine ⟨j, ?_, ?_, rfl⟩
  · rcases Nat.lt_or_ge j 97 with q | q
    · exact absurd (nI_lt (b := 97) q (by omega)) h1
    · exact q
  · rcases Nat.lt_or_ge 122 j with q | q
    · exact absurd (nI_lt (a := 122) q (by omega)) h2
    · exact q
/-- n letters from s on, as numbers 1 to 26 -/
def ltrs (t : Nat → Int32) (s n : Nat) : List Nat := (List.range n).map (fun i => cl (t (s + i)) - 96)
def ltOk (ns : List Nat) : Prop := ns.length ≤ 8 ∧ ∀ x ∈ ns, 1 ≤ x ∧ x ≤ 26
theorem nmOk.lt8 {ns : List Nat} (h : nmOk ns) : ltOk ns := h.2
theorem codC_app : ∀ (l : List Nat) (x : Nat), codC (l ++ [x]) = codC l + x * 32 ^ l.length
  | [], x => by simp [codC]
  | y :: l, x => by
    rw [List.cons_append, codC, codC, codC_app l x, List.length_cons, Nat.pow_succ, Nat.mul_add, show x * (32 ^ l.length * 32) = 32 * (x * 32 ^ l.length) by rw [← Nat.mul_assoc, Nat.mul_comm]]
    omega
theorem codC_inj : ∀ {a b : List Nat}, (∀ x ∈ a, 1 ≤ x ∧ x ≤ 26) → (∀ x ∈ b, 1 ≤ x ∧ x ≤ 26) → codC a = codC b → a = b
  | [], [], _, _, _ => rfl
  | [], y :: b, _, hb, e => by have := hb y List.mem_cons_self; simp only [codC] at e; omega
  | x :: a, [], ha, _, e => by have := ha x List.mem_cons_self; simp only [codC] at e; omega
  | x :: a, y :: b, ha, hb, e => by
    have h1 := ha x List.mem_cons_self
    have h2 := hb y List.mem_cons_self
    simp only [codC] at e
    have e1 : x = y := by omega
    have e2 : codC a = codC b := by omega
    rw [e1, codC_inj (fun z hz => ha z (List.mem_cons_of_mem _ hz)) (fun z hz => hb z (List.mem_cons_of_mem _ hz)) e2]
theorem ltOk.lt {ns : List Nat} (h : ltOk ns) : codC ns < 2 ^ 40 := by
  have h1 := codC_lt h.2
  have h2 : 32 ^ ns.length ≤ 32 ^ 8 := Nat.pow_le_pow_right (by omega) h.1
  have h3 : (32 : Nat) ^ 8 = 2 ^ 40 := by decide
  omega
theorem lN_inj {a b : List Nat} (ha : ltOk a) (hb : ltOk b) : lN (codC a) = lN (codC b) ↔ a = b := by
  have h1 := ha.lt
  have h2 := hb.lt
  exact ⟨fun e => codC_inj ha.2 hb.2 ((pk_lEQ (by omega) (by omega)).mp e), fun e => by rw [e]⟩
theorem orL {a b : Nat} (ha : a < 2 ^ 63) (hb : b < 2 ^ 63) : lN a ||| lN b = lN (a ||| b) := by
  have h2 : lN a ||| lN b = (UInt64.ofNat a ||| UInt64.ofNat b).toInt64 := rfl
  have h3 : lN (a ||| b) = (UInt64.ofNat (a ||| b)).toInt64 := rfl
  have h4 : a ||| b < 2 ^ 63 := Nat.or_lt_two_pow ha hb
  rw [h2, h3]
  congr 1
  apply UInt64.toNat_inj.mp
  rw [UInt64.toNat_or, u64 (by omega), u64 (by omega), u64 (by omega)]
theorem cof_x : ∀ x, x < 27 → ∀ i, i < 8 → (nI x).toInt64 <<< ((5 * nI i).toInt64 &&& 63) = lN (x * 32 ^ i) := by decide +kernel
theorem ltrs_s (t : Nat → Int32) (s n : Nat) : ltrs t s (n + 1) = ltrs t s n ++ [cl (t (s + n)) - 96] := by
  unfold ltrs
  rw [List.range_succ, List.map_append]
  rfl
theorem ltrs_len (t : Nat → Int32) (s n : Nat) : (ltrs t s n).length = n := by simp [ltrs]
theorem ltrs_ok {t : Nat → Int32} {s n : Nat} (h : ∀ i, i < n → isLt t (s + i) = true) : ∀ x ∈ ltrs t s n, 1 ≤ x ∧ x ≤ 26 := by
  intro x hx
  obtain ⟨i, hi, rfl⟩ := List.mem_map.mp hx
  have h1 := h i (List.mem_range.mp hi)
  simp only [isLt, decide_eq_true_eq] at h1
  obtain ⟨c, c1, c2, c3⟩ := lt_of h1.1 h1.2
  rw [c3, cl_nI (by omega)]
  omega
theorem cdC_eq {t : Nat → Int32} {s : Nat} : ∀ m, (∀ i, i < m → isLt t (s + i) = true) → cdC t s m = lN (codC (ltrs t s (min m 8)))
  | 0, _ => rfl
  | m + 1, h => by
    have ih := cdC_eq m (fun i hi => h i (by omega))
    unfold cdC
    by_cases c : m < 8
    · have h1 := h m (by omega)
      simp only [isLt, decide_eq_true_eq] at h1
      obtain ⟨a, c1, c2, c3⟩ := lt_of h1.1 h1.2
      have hl := codC_lt (ltrs_ok (t := t) (s := s) (n := m) (fun i hi => h i (by omega)))
      rw [ltrs_len] at hl
      rw [if_pos c, ih, show min m 8 = m by omega, show min (m + 1) 8 = m + 1 by omega, ltrs_s, codC_app, ltrs_len, cof, c3, cl_nI (by omega)]
      rw [show nI a - 97 + 1 = nI (a - 96) by
        rw [show nI a - 97 = nI (a - 97) from pk_sub (b := 97) c1, nI_1]; congr 1; omega]
      rw [cof_x _ (by omega) _ c]
      have hp : (32 : Nat) ^ m = 2 ^ (5 * m) := by rw [Nat.pow_mul]
      have hm : 32 ^ m ≤ 32 ^ 7 := Nat.pow_le_pow_right (by omega) (by omega)
      have hx : (a - 96) * 32 ^ m ≤ 26 * 32 ^ 7 := Nat.mul_le_mul (by omega) hm
      rw [orL (by omega) (by omega)]
      congr 1
      rw [Nat.or_comm, hp, Nat.mul_comm (a - 96), ← Nat.two_pow_add_eq_or_of_lt (by rw [← hp]; exact hl), Nat.add_comm]
    · rw [if_neg c, ih, show min m 8 = 8 by omega, show min (m + 1) 8 = 8 by omega]
/-! where a name stands in a list -/
def nbr (ns : List (List Nat)) (w : List Nat) : Option Nat := fstP (fun i => decide (ns[i]? = some w)) 0 ns.length
theorem nbr_lt {ns : List (List Nat)} {w : List Nat} {k : Nat} (h : nbr ns w = some k) : k < ns.length ∧ ns[k]? = some w := by
  have := fstP_spec h
  exact ⟨by omega, by simpa using this.2.1⟩
theorem nbr_none {ns : List (List Nat)} {w : List Nat} (h : nbr ns w = none) : w ∉ ns := fun hm => by
  obtain ⟨i, hi, e⟩ := List.getElem_of_mem hm
  have := fstP_none h i (by omega) (by omega)
  simp [hi, e] at this
theorem nbr_nil {ns : List (List Nat)} (h : ∀ w ∈ ns, w ≠ []) : nbr ns [] = none := by
  cases e : nbr ns [] with
  | none => rfl
  | some k => exact absurd rfl (h [] (List.mem_of_getElem? (nbr_lt e).2))
def kwds : List (List Nat) := [[12, 1, 14, 4], [6, 9, 18, 13], [15, 23, 14, 19], [12, 5, 14, 4, 19], [20, 18, 5, 1, 20, 25], [5, 14, 4, 19], [25, 5, 1, 18], [16, 1, 25], [16, 1, 19, 19], [19, 20, 1, 6, 6], [15, 23, 14], [12, 5, 14, 4]]
theorem kwds_ok : ∀ w ∈ kwds, w ≠ [] ∧ w.length ≤ 6 ∧ ∀ x ∈ w, 1 ≤ x ∧ x ≤ 26 := by decide
theorem kwds_code : ∀ i, i < 12 → ∀ w, kwds[i]? = some w → roCode.getD i 0 = lN (codC w) := by
  intro i hi w hw
  have : i = 0 ∨ i = 1 ∨ i = 2 ∨ i = 3 ∨ i = 4 ∨ i = 5 ∨ i = 6 ∨ i = 7 ∨ i = 8 ∨ i = 9 ∨ i = 10 ∨ i = 11 := by omega
  rcases this with rfl | rfl | rfl | rfl | rfl | rfl | rfl | rfl | rfl | rfl | rfl | rfl <;> (simp only [kwds, List.getElem?_cons_zero, List.getElem?_cons_succ, Option.some.injEq] at hw; subst hw; decide)
/-! cursors -/
abbrev Cu : Type := Option Nat × Nat × Nat
def nxW (t : Nat → Int32) (len : Nat) (c : Cu) : List Nat × Cu := if c.1 = none then (ltrs t (skE t len c.2.2) (min (wdE t len c.2.2 - skE t len c.2.2) 8), (if wdE t len c.2.2 = skE t len c.2.2 ∨ 8 < wdE t len c.2.2 - skE t len c.2.2 then some (skE t len c.2.2) else none), skE t len c.2.2, wdE t len c.2.2) else ([], c)
def nxN (t : Nat → Int32) (len lo hi : Nat) (c : Cu) : Nat × Cu := if c.1 = none then (if nmBad t len c.2.2 lo hi then lo else nmV t len c.2.2, (if nmBad t len c.2.2 lo hi then some (skE t len c.2.2) else none), skE t len c.2.2, dgE t len c.2.2) else (lo, c)
def flC (c : Cu) (x : Nat) : Cu := if c.1 = none then (some x, c.2) else c
def goC (t : Nat → Int32) (len : Nat) (c : Cu) : Bool × Cu := if c.1 = none then (if skE t len c.2.2 < len then (if t (skE t len c.2.2) = 59 then (true, none, skE t len c.2.2, skE t len c.2.2 + 1) else (false, some (skE t len c.2.2), skE t len c.2.2, skE t len c.2.2)) else (false, none, skE t len c.2.2, skE t len c.2.2)) else (false, c)
/-- a cursor within a tape of len bytes -/
def cuOk (len : Nat) (c : Cu) : Prop := c.2.1 ≤ len ∧ c.2.2 ≤ len ∧ ∀ p, c.1 = some p → p ≤ len
theorem nxW_ok {t : Nat → Int32} {len : Nat} {c : Cu} (h : cuOk len c) : cuOk len (nxW t len c).2 := by
  unfold nxW
  have h1 := skE_le t h.2.1
  by_cases e : c.1 = none
  · rw [if_pos e]
    refine ⟨h1, wdE_le t h.2.1, fun p hp => ?_⟩
    simp only at hp
    split at hp
    · cases hp; exact h1
    · cases hp
  · rw [if_neg e]; exact h
theorem nxN_ok {t : Nat → Int32} {len lo hi : Nat} {c : Cu} (h : cuOk len c) : cuOk len (nxN t len lo hi c).2 := by
  unfold nxN
  have h1 := skE_le t h.2.1
  by_cases e : c.1 = none
  · rw [if_pos e]
    refine ⟨h1, dgE_le t h.2.1, fun p hp => ?_⟩
    simp only at hp
    split at hp
    · cases hp; exact h1
    · cases hp
  · rw [if_neg e]; exact h
theorem flC_ok {len x : Nat} {c : Cu} (h : cuOk len c) (hx : x ≤ len) : cuOk len (flC c x) := by
  unfold flC
  by_cases e : c.1 = none
  · rw [if_pos e]; exact ⟨h.1, h.2.1, fun p hp => by cases hp; exact hx⟩
  · rw [if_neg e]; exact h
theorem goC_ok {t : Nat → Int32} {len : Nat} {c : Cu} (h : cuOk len c) : cuOk len (goC t len c).2 := by
  unfold goC
  have h1 := skE_le t h.2.1
  by_cases e : c.1 = none
  · rw [if_pos e]
    by_cases e2 : skE t len c.2.2 < len
    · rw [if_pos e2]
      by_cases e3 : t (skE t len c.2.2) = 59
      · rw [if_pos e3]; exact ⟨h1, e2, fun p hp => by cases hp⟩
      · rw [if_neg e3]; exact ⟨h1, h1, fun p hp => by cases hp; exact h1⟩
    · rw [if_neg e2]; exact ⟨h1, h1, fun p hp => by cases hp⟩
  · rw [if_neg e]; exact h
theorem goC_t {t : Nat → Int32} {len : Nat} {c : Cu} (h : (goC t len c).1 = true) : (goC t len c).2.1 = none ∧ c.2.2 < (goC t len c).2.2.2 := by
  have h1 := skE_ge t len c.2.2
  unfold goC at h ⊢
  by_cases e : c.1 = none
  · rw [if_pos e] at h ⊢
    by_cases e2 : skE t len c.2.2 < len
    · rw [if_pos e2] at h ⊢
      by_cases e3 : t (skE t len c.2.2) = 59
      · rw [if_pos e3]; exact ⟨rfl, by show _ < skE t len c.2.2 + 1; omega⟩
      · rw [if_neg e3] at h; cases h
    · rw [if_neg e2] at h; cases h
  · rw [if_neg e] at h; cases h
/-- at a tape's end without a fault -/
theorem goC_f {t : Nat → Int32} {len : Nat} {c : Cu} (hc : cuOk len c) (h : ¬ (goC t len c).1 = true) (hn : (goC t len c).2.1 = none) : (goC t len c).2.2.2 = len := by
  have h1 := skE_le t hc.2.1
  unfold goC at h hn ⊢
  by_cases e : c.1 = none
  · rw [if_pos e] at h hn ⊢
    by_cases e2 : skE t len c.2.2 < len
    · rw [if_pos e2] at h hn ⊢
      by_cases e3 : t (skE t len c.2.2) = 59
      · rw [if_pos e3] at h; exact absurd rfl h
      · rw [if_neg e3] at hn; cases hn
    · rw [if_neg e2]; show skE t len c.2.2 = len; omega
  · rw [if_neg e] at hn; exact absurd hn e
theorem nxW_lt (t : Nat → Int32) (len : Nat) (c : Cu) : ltOk (nxW t len c).1 := by
  unfold nxW
  by_cases e : c.1 = none
  · rw [if_pos e]
    refine ⟨by rw [ltrs_len]; omega, ltrs_ok (fun i hi => runE_all (isLt t) (len - skE t len c.2.2) (skE t len c.2.2) _ (by omega) ?_)⟩
    have : skE t len c.2.2 + i < wdE t len c.2.2 := by omega
    exact this
  · rw [if_neg e]; exact ⟨by simp, fun x hx => by simp at hx⟩
theorem nxW_nm {t : Nat → Int32} {len : Nat} {c : Cu} (h : (nxW t len c).2.1 = none) : c.1 = none ∧ nmOk (nxW t len c).1 := by
  have h8 := nxW_lt t len c
  unfold nxW at h h8 ⊢
  by_cases e : c.1 = none
  · rw [if_pos e] at h h8 ⊢
    refine ⟨e, ?_, h8⟩
    have h1 := wdE_ge t len c.2.2
    simp only at h
    by_cases q : wdE t len c.2.2 = skE t len c.2.2 ∨ 8 < wdE t len c.2.2 - skE t len c.2.2
    · rw [if_pos q] at h; cases h
    · intro hn
      have := congrArg List.length hn
      rw [ltrs_len] at this
      simp only [List.length_nil] at this
      omega
  · rw [if_neg e] at h; exact absurd h e
/-- no keyword behind a fault -/
theorem nxW_kw {t : Nat → Int32} {len : Nat} {c : Cu} (h : (nxW t len c).2.1 ≠ none) : nbr kwds (nxW t len c).1 = none := by
  cases hk : nbr kwds (nxW t len c).1 with
  | none => rfl
  | some k =>
    exfalso
    have hm := kwds_ok _ (List.mem_of_getElem? (nbr_lt hk).2)
    unfold nxW at h hm
    by_cases e : c.1 = none
    · rw [if_pos e] at h hm
      have h1 := wdE_ge t len c.2.2
      simp only [ltrs_len] at hm
      have h2 : 0 < (ltrs t (skE t len c.2.2) (min (wdE t len c.2.2 - skE t len c.2.2) 8)).length := List.length_pos_iff.mpr hm.1
      rw [ltrs_len] at h2
      apply h
      show (if _ then _ else none) = none
      rw [if_neg (by omega)]
    · rw [if_neg e] at hm; exact hm.1 rfl
theorem nxN_b {t : Nat → Int32} {len lo hi : Nat} {c : Cu} (h : lo ≤ hi) : lo ≤ (nxN t len lo hi c).1 ∧ (nxN t len lo hi c).1 ≤ hi := by
  unfold nxN
  by_cases e : c.1 = none
  · rw [if_pos e]
    by_cases q : nmBad t len c.2.2 lo hi
    · simp only [if_pos q]; exact ⟨Nat.le_refl _, h⟩
    · simp only [if_neg q]
      unfold nmBad at q
      omega
  · rw [if_neg e]; exact ⟨Nat.le_refl _, h⟩
theorem nxN_n {t : Nat → Int32} {len lo hi : Nat} {c : Cu} (h : (nxN t len lo hi c).2.1 = none) : c.1 = none := by
  unfold nxN at h
  by_cases e : c.1 = none
  · exact e
  · rw [if_neg e] at h; exact absurd h e
theorem flC_n {c : Cu} {x : Nat} : ¬ (flC c x).1 = none := by
  unfold flC
  by_cases e : c.1 = none
  · rw [if_pos e]; simp
  · rw [if_neg e]; exact e
theorem flC_id {c : Cu} {x : Nat} (h : ¬ c.1 = none) : flC c x = c := by unfold flC; rw [if_neg h]
theorem flC_st {c : Cu} {x : Nat} : (flC c x).2 = c.2 := by
  unfold flC
  by_cases e : c.1 = none
  · rw [if_pos e]
  · rw [if_neg e]
