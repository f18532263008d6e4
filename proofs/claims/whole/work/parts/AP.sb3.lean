theorem nI_subLe {a b : Nat} (h : a ≤ b) (hb : b < 2 ^ 31) : nI a - nI b ≤ 0 := by
  rw [Int32.le_iff_toInt_le, Int32.toInt_sub, nI_toInt (by omega), nI_toInt hb]
  show Int.bmod ((a : Int) - (b : Int)) 4294967296 ≤ 0
  simp only [Int.bmod]
  split <;> omega
theorem nI_dec (n : Nat) : nI (n + 1) + Int32.ofInt (-1) = nI n := by
  rw [show Int32.ofInt (-1) = -1 from by decide, ← Int32.sub_eq_add_neg]
  exact nI_pred n
theorem chr_ok : ∀ c, c < 128 → fits .byte (.int (nI c)) = true ∧ vp_nar .byte (nI c) = nI c ∧ (nI c).toInt8.toInt32 = nI c ∧ ((nI c &&& 255).toUInt32 % 65536).toInt32 = nI c ∧ narrow .char (.int (nI c)) = .int (nI c) := by decide +kernel
/-- a number's digits, up to a hundred -/
def dg (x : Nat) : List Nat := if x < 10 then [48 + x] else if x < 100 then [48 + x / 10, 48 + x % 10] else [49, 48, 48]
theorem dg_ok : ∀ x, x ≤ 100 → ∀ c ∈ dg x, c < 128 := by decide +kernel
theorem neg_ok : ∀ x, x ≤ 100 → (x < 10 → ¬ (-(nI x)) ≤ -10) ∧ (10 ≤ x → (-(nI x)) ≤ -10) ∧ (x < 100 → ¬ (-(nI x)) ≤ -100 ∧ (-100 : Int32) < -(nI x)) ∧ (100 ≤ x → (-(nI x)) ≤ -100) ∧ (x < 10 → (-9 : Int32) ≤ -(nI x)) ∧ (10 ≤ x → ¬ (-9 : Int32) ≤ -(nI x)) ∧ ¬ (-(nI x)) ≤ -1000 ∧ nI x = - -(nI x) ∧ ¬ nI x < 0 ∧ 0 ≤ nI x := by decide +kernel
section sbd
variable {d : Nat} {ro : Nat → Nat} {μ : Hp} {a b N : Nat} {l : List Nat}
theorem sb.app {w : List Nat} {μ' : Hp} (h : sb μ a b N l) (hw : l.length + w.length ≤ N) (hc : ∀ c ∈ w, c < 128) (e1 : hL μ' = hL μ ∧ hR μ' = hR μ ∧ hS μ' = hS μ) (e2 : ∀ c, c ≠ a → c ≠ b → hI μ' c = hI μ c) (e3 : hI μ' a 1 = 0 ∧ hI μ' a 3 = nI (l.length + w.length)) (e4 : ∀ j, j < l.length → hI μ' b j = hI μ b j) (e5 : ∀ j c, w[j]? = some c → hI μ' b (l.length + j) = nI c) (e6 : ∀ j, fits .byte (.int (hI μ' b j)) = true) : sb μ' a b N (l ++ w) ∧ sF a b b μ μ' := by
  obtain ⟨⟨h1, h2, h3, h4⟩, ⟨g1, g2, g3, g4⟩, g5, g6⟩ := h
  refine ⟨⟨⟨by rw [e1.2.2]; exact h1, by rw [e1.2.1]; exact h2, e3.1, by rw [List.length_append]; exact e3.2⟩, ⟨by rw [e1.2.2]; exact g1, by rw [List.length_append]; exact hw, g3, g4⟩, e6, fun j c hj => ?_⟩, Or.inl rfl, fun c x hx => by rw [e1.2.2]; exact hx, fun c x ha hb _ => ⟨e2 c ha hb, by rw [e1.1], by rw [e1.2.1]⟩⟩
  by_cases q : j < l.length
  · rw [List.getElem?_append_left q] at hj
    rw [e4 j q]
    exact g6 j c hj
  · rw [List.getElem?_append_right (by omega)] at hj
    have := e5 _ _ hj
    rw [show l.length + (j - l.length) = j by omega] at this
    exact ⟨hc c (List.mem_of_getElem? hj), this⟩
theorem sb.grow {q b' : Nat} (h : sb μ a b N l) (hb' : hS μ b' = none) (hq : N < q) (hq4 : q ≤ 400) : sb (wR (wRow (wN μ b' 1 q) b' (fun j => if j < N then hI μ b j else 0)) a 0 (some b')) a b' q l ∧ sF a b b' μ (wR (wRow (wN μ b' 1 q) b' (fun j => if j < N then hI μ b j else 0)) a 0 (some b')) := by
  obtain ⟨⟨h1, h2, h3, h4⟩, ⟨g1, g2, g3, g4⟩, g5, g6⟩ := h
  have na : a ≠ b' := fun e => by rw [e, hb'] at h1; cases h1
  have ea : hI (wR (wRow (wN μ b' 1 q) b' (fun j => if j < N then hI μ b j else 0)) a 0 (some b')) a = hI μ a := (va_up_ne _ _ na).trans (va_up_ne _ _ na)
  have eb : hI (wR (wRow (wN μ b' 1 q) b' (fun j => if j < N then hI μ b j else 0)) a 0 (some b')) b' = fun j => if j < N then hI μ b j else 0 := va_up_self _ _ _
  refine ⟨⟨⟨(va_up_ne _ _ na).trans h1, ?_, by rw [ea]; exact h3, by rw [ea]; exact h4⟩, ⟨va_up_self _ _ _, by omega, by omega, hq4⟩, fun j => ?_, fun j c hj => ?_⟩, Or.inr hb', fun c x hx => ?_, fun c x hc hc2 hx => ?_⟩
  · exact hR_wR_e _ _ _ _
  · rw [eb]
    show fits .byte (.int (if j < N then hI μ b j else 0)) = true
    by_cases e : j < N
    · rw [if_pos e]; exact g5 j
    · rw [if_neg e]; decide
  · have hj2 : j < l.length := (List.getElem?_eq_some_iff.mp hj).1
    rw [eb]
    show c < 128 ∧ (if j < N then hI μ b j else 0) = nI c
    rw [if_pos (by omega)]
    exact g6 j c hj
  · have hc : c ≠ b' := fun e => by rw [e, hb'] at hx; cases hx
    exact (va_up_ne _ _ hc).trans hx
  · have hc3 : c ≠ b' := fun e => by rw [e, hb'] at hx; cases hx
    exact ⟨(va_up_ne _ _ hc3).trans (va_up_ne _ _ hc3), va_up_ne _ _ hc3, (va_up_ne _ _ hc).trans (va_up_ne _ _ hc3)⟩
theorem c_ens0 {q : Nat} (h : sb μ a b N l) (hq : q ≤ N) : xC d yJ5_ensureCapacityInternal_d00df cJ5_ensureCapacityInternal_d00df 3 none 0 0 [.ref a, .int (nI q)] μ ro (fun r μ' => r = none ∧ μ' = μ) :=
  xC_intro (own := RJ5) (lv := [(0, .ref a), (1, .int (nI q))]) (by decide) rfl (Nat.le_of_ble_eq_true rfl) rfl (fun J g hr => by
    refine r_aload_n g dJ5_ensureCapacityInternal_d00df_0 rfl ?_
    refine r_getR g fJ5_15 rfl (h.1.1) (h.1.2.1) dJ5_ensureCapacityInternal_d00df_1 ?_
    refine r_alenB g h.2.1.1 dJ5_ensureCapacityInternal_d00df_4 ?_
    refine r_nmV (.int (nI N)) rfl ?_
    refine r_aload_n g dJ5_ensureCapacityInternal_d00df_5 rfl ?_
    refine r_getI g fJ5_22 rfl (h.1.1) dJ5_ensureCapacityInternal_d00df_6 ?_
    refine r_nmV (.int 0) (by rw [h.1.2.2.1]) ?_
    refine r_ishr g dJ5_ensureCapacityInternal_d00df_9 ?_
    refine r_nmV (.int (nI N)) (by rw [shr00]) ?_
    refine r_istore_n g [(2, .int (nI N)), (0, .ref a), (1, .int (nI q))] dJ5_ensureCapacityInternal_d00df_10 (by decide) rfl ?_
    refine r_iload_n g dJ5_ensureCapacityInternal_d00df_11 rfl ?_
    refine r_iload_n g dJ5_ensureCapacityInternal_d00df_12 rfl ?_
    refine r_isub g dJ5_ensureCapacityInternal_d00df_13 ?_
    refine r_nmV (.int (nI q - nI N)) (rfl) ?_
    refine r_if_le g 38 dJ5_ensureCapacityInternal_d00df_14 (by decide) (fun _ => ?_) (fun c => absurd (nI_subLe hq (by have := h.2.1.2.2.2; omega)) c)
    exact hr.1 rfl _ _ _ _ _ dJ5_ensureCapacityInternal_d00df_38 (Nat.le_refl _) (Nat.le_refl _) ⟨rfl, rfl⟩)
theorem c_ensK {q : Nat} (h : sb μ a b N l) (hq : q ≤ N) : xC d yJ5_ensureCapacityInternal_d00df cJ5_ensureCapacityInternal_d00df 3 none 0 0 [.ref a, .int (nI q)] μ ro (fun r μ' => r = none ∧ ∃ b', sb μ' a b' N l ∧ sF a b b' μ μ') :=
  xC_intro (own := RJ5) (lv := [(0, .ref a), (1, .int (nI q))]) (by decide) rfl (Nat.le_of_ble_eq_true rfl) rfl (fun J g hr => by
    refine r_aload_n g dJ5_ensureCapacityInternal_d00df_0 rfl ?_
    refine r_getR g fJ5_15 rfl (h.1.1) (h.1.2.1) dJ5_ensureCapacityInternal_d00df_1 ?_
    refine r_alenB g h.2.1.1 dJ5_ensureCapacityInternal_d00df_4 ?_
    refine r_nmV (.int (nI N)) rfl ?_
    refine r_aload_n g dJ5_ensureCapacityInternal_d00df_5 rfl ?_
    refine r_getI g fJ5_22 rfl (h.1.1) dJ5_ensureCapacityInternal_d00df_6 ?_
    refine r_nmV (.int 0) (by rw [h.1.2.2.1]) ?_
    refine r_ishr g dJ5_ensureCapacityInternal_d00df_9 ?_
    refine r_nmV (.int (nI N)) (by rw [shr00]) ?_
    refine r_istore_n g [(2, .int (nI N)), (0, .ref a), (1, .int (nI q))] dJ5_ensureCapacityInternal_d00df_10 (by decide) rfl ?_
    refine r_iload_n g dJ5_ensureCapacityInternal_d00df_11 rfl ?_
    refine r_iload_n g dJ5_ensureCapacityInternal_d00df_12 rfl ?_
    refine r_isub g dJ5_ensureCapacityInternal_d00df_13 ?_
    refine r_nmV (.int (nI q - nI N)) (rfl) ?_
    refine r_if_le g 38 dJ5_ensureCapacityInternal_d00df_14 (by decide) (fun _ => ?_) (fun c => absurd (nI_subLe hq (by have := h.2.1.2.2.2; omega)) c)
    exact hr.1 rfl _ _ _ _ _ dJ5_ensureCapacityInternal_d00df_38 (Nat.le_refl _) (Nat.le_refl _) ⟨rfl, b, h, sF.rf⟩)
theorem c_ens1 {q : Nat} (hd : 3 ≤ d) (h : sb μ a b N l) (hq : N < q) (hq4 : q ≤ 190) : xC d yJ5_ensureCapacityInternal_d00df cJ5_ensureCapacityInternal_d00df 3 none 1 (max q (2 * N + 2)) [.ref a, .int (nI q)] μ ro (fun r μ' => r = none ∧ ∃ b', sb μ' a b' (max q (2 * N + 2)) l ∧ sF a b b' μ μ') :=
  xC_intro (own := RJ5) (lv := [(0, .ref a), (1, .int (nI q))]) (by decide) rfl (Nat.le_of_ble_eq_true rfl) rfl (fun J g hr => by
    refine r_aload_n g dJ5_ensureCapacityInternal_d00df_0 rfl ?_
    refine r_getR g fJ5_15 rfl (h.1.1) (h.1.2.1) dJ5_ensureCapacityInternal_d00df_1 ?_
    refine r_alenB g h.2.1.1 dJ5_ensureCapacityInternal_d00df_4 ?_
    refine r_nmV (.int (nI N)) rfl ?_
    refine r_aload_n g dJ5_ensureCapacityInternal_d00df_5 rfl ?_
    refine r_getI g fJ5_22 rfl (h.1.1) dJ5_ensureCapacityInternal_d00df_6 ?_
    refine r_nmV (.int 0) (by rw [h.1.2.2.1]) ?_
    refine r_ishr g dJ5_ensureCapacityInternal_d00df_9 ?_
    refine r_nmV (.int (nI N)) (by rw [shr00]) ?_
    refine r_istore_n g [(2, .int (nI N)), (0, .ref a), (1, .int (nI q))] dJ5_ensureCapacityInternal_d00df_10 (by decide) rfl ?_
    refine r_iload_n g dJ5_ensureCapacityInternal_d00df_11 rfl ?_
    refine r_iload_n g dJ5_ensureCapacityInternal_d00df_12 rfl ?_
    refine r_isub g dJ5_ensureCapacityInternal_d00df_13 ?_
    refine r_nmV (.int (nI (q - N))) (by rw [nI_sub (by omega)]) ?_
    refine r_if_le g 38 dJ5_ensureCapacityInternal_d00df_14 (by decide) (fun c => absurd c (nI_nle (by omega) (by omega))) (fun _ => ?_)
    refine r_aload_n g dJ5_ensureCapacityInternal_d00df_17 rfl ?_
    refine r_aload_n g dJ5_ensureCapacityInternal_d00df_18 rfl ?_
    refine r_getR g fJ5_15 rfl (h.1.1) (h.1.2.1) dJ5_ensureCapacityInternal_d00df_19 ?_
    refine r_aload_n g dJ5_ensureCapacityInternal_d00df_22 rfl ?_
    refine r_iload_n g dJ5_ensureCapacityInternal_d00df_23 rfl ?_
    refine r_callUO (d' := d - 1) (st := [.ref b, .ref a]) (As := [.int (nI q)]) g uJ5_104 rfl (h.1.1) rfl (Nat.le_of_ble_eq_true rfl) dJ5_ensureCapacityInternal_d00df_24 (by omega) (by omega) (by omega) (c_ncap (by omega) h hq (by omega)) (fun r μ' hz => ?_)
    obtain ⟨rfl, rfl⟩ := hz
    refine r_aload_n g dJ5_ensureCapacityInternal_d00df_27 rfl ?_
    refine r_getI g fJ5_22 rfl (h.1.1) dJ5_ensureCapacityInternal_d00df_28 ?_
    refine r_nmV (.int 0) (by rw [h.1.2.2.1]) ?_
    refine r_ishl g dJ5_ensureCapacityInternal_d00df_31 ?_
    refine r_nmV (.int (nI (max q (2 * N + 2)))) (by rw [shl00]) ?_
    refine r_callS (d' := d - 1) (st := [.ref a]) (As := [.ref b, .int (nI (max q (2 * N + 2)))]) g sJ5_108 iJ7_copyOf_9075b rfl (Nat.le_of_ble_eq_true rfl) dJ5_ensureCapacityInternal_d00df_32 (by omega) (by omega) (by omega) (c_cpOf (by omega) h.2.1.1 h.2.1.2.2.2 h.2.2.1 (by omega) (by have := h.2.1.2.2.2; omega)) (fun r μ' hz => ?_)
    obtain ⟨b', rfl, hb', rfl⟩ := hz
    have hna : hS (wRow (wN μ' b' 1 (max q (2 * N + 2))) b' (fun j => if j < N then hI μ' b j else 0)) a = some (4, 4) := (va_up_ne _ _ (fun e => by have h1 := h.1.1; rw [e, hb'] at h1; cases h1)).trans h.1.1
    refine r_putR g fJ5_15 rfl hna rfl rfl dJ5_ensureCapacityInternal_d00df_35 ?_
    exact hr.1 rfl _ _ _ _ _ dJ5_ensureCapacityInternal_d00df_38 (by omega) (by omega) ⟨rfl, b', h.grow hb' (by omega) (by have := h.2.1.2.2.2; omega)⟩)
theorem c_ens {q : Nat} (hd : 3 ≤ d) (h : sb μ a b N l) (hq4 : q ≤ 190) : xC d yJ5_ensureCapacityInternal_d00df cJ5_ensureCapacityInternal_d00df 3 none (gC N q) (gS N q) [.ref a, .int (nI q)] μ ro (fun r μ' => r = none ∧ ∃ b', sb μ' a b' (gN N q) l ∧ sF a b b' μ μ') := by
  unfold gC gS gN
  by_cases hq : q ≤ N
  · rw [if_pos hq, if_pos hq, if_pos hq]
    exact c_ensK h hq
  · rw [if_neg hq, if_neg hq, if_neg hq]
    exact c_ens1 hd h (by omega) hq4
theorem gN_ge {N q : Nat} : q ≤ gN N q ∧ N ≤ gN N q := by
  unfold gN
  split <;> omega
theorem c_codS  : xC d yJ0_coder_7d493 cJ0_coder_7d493 1 (some .byte) 0 0 [.ref (ro 7)] μ ro (fun r μ' => r = some (.int 0) ∧ μ' = μ) :=
  xC_intro (own := RJ0) (lv := [(0, .ref (ro 7))]) (by decide) rfl (Nat.le_of_ble_eq_true rfl) rfl (fun J g hr => by
    refine r_getsRO g (List.mem_of_getElem? (i := 5) rfl) zJ0_38 dJ0_coder_7d493_0 ?_
    refine r_if_eq g 13 dJ0_coder_7d493_3 (by decide) (fun c => absurd c (by decide)) (fun _ => ?_)
    refine r_aload_n g dJ0_coder_7d493_6 rfl ?_
    refine r_fldRO g (List.mem_of_getElem? (i := 2) rfl) zJ0_15 dJ0_coder_7d493_7 ?_
    refine r_goto g 14 dJ0_coder_7d493_10 (by decide) ?_
    exact hr.2.1 _ rfl _ _ _ _ _ _ dJ0_coder_7d493_14 (by decide +kernel) (Nat.le_refl _) (Nat.le_refl _) ⟨rfl, rfl⟩)
theorem c_lenS (hd : 1 ≤ d) : xC d yJ0_length_8abf5 cJ0_length_8abf5 1 (some .int) 0 0 [.ref (ro 7)] μ ro (fun r μ' => r = some (.int (nI 2)) ∧ μ' = μ) :=
  xC_intro (own := RJ0) (lv := [(0, .ref (ro 7))]) (by decide) rfl (Nat.le_of_ble_eq_true rfl) rfl (fun J g hr => by
    refine r_aload_n g dJ0_length_8abf5_0 rfl ?_
    refine r_fldRO g (List.mem_of_getElem? (i := 3) rfl) zJ0_9 dJ0_length_8abf5_1 ?_
    refine r_tabLen g (List.mem_of_getElem? (i := 4) rfl) dJ0_length_8abf5_4 ?_
    refine r_aload_n g dJ0_length_8abf5_5 rfl ?_
    refine r_callVR (d' := d - 1) (st := [.int (nI 2)]) (As := []) g sJ0_335 iJ0_coder_7d493 eJ0_coder_7d493 (List.mem_of_getElem? (i := 1) rfl) rfl (Nat.le_of_ble_eq_true rfl) dJ0_length_8abf5_6 (by omega) (by omega) (by omega) c_codS (fun r μ' hz => ?_)
    obtain ⟨rfl, rfl⟩ := hz
    refine r_ishr g dJ0_length_8abf5_9 ?_
    refine r_nmV (.int (nI 2)) (by decide +kernel) ?_
    exact hr.2.1 _ rfl _ _ _ _ _ _ dJ0_length_8abf5_10 rfl (Nat.le_refl _) (Nat.le_refl _) ⟨rfl, rfl⟩)
theorem c_infl (hd : 1 ≤ d) (h : sb μ a b N l) : xC d yJ5_inflateIfNeededFor_a7421 cJ5_inflateIfNeededFor_a7421 2 none 0 0 [.ref a, .ref (ro 7)] μ ro (fun r μ' => r = none ∧ μ' = μ) :=
  xC_intro (own := RJ5) (lv := [(0, .ref a), (1, .ref (ro 7))]) (by decide) rfl (Nat.le_of_ble_eq_true rfl) rfl (fun J g hr => by
    refine r_getsRO g (List.mem_of_getElem? (i := 5) rfl) zJ5_18 dJ5_inflateIfNeededFor_a7421_0 ?_
    refine r_if_eq g 21 dJ5_inflateIfNeededFor_a7421_3 (by decide) (fun c => absurd c (by decide)) (fun _ => ?_)
    refine r_aload_n g dJ5_inflateIfNeededFor_a7421_6 rfl ?_
    refine r_getI g fJ5_22 rfl (h.1.1) dJ5_inflateIfNeededFor_a7421_7 ?_
    refine r_nmV (.int 0) (by rw [h.1.2.2.1]) ?_
    refine r_aload_n g dJ5_inflateIfNeededFor_a7421_10 rfl ?_
    refine r_callVR (d' := d - 1) (st := [.int 0]) (As := []) g sJ5_40 iJ0_coder_7d493 eJ0_coder_7d493 (List.mem_of_getElem? (i := 1) rfl) rfl (Nat.le_of_ble_eq_true rfl) dJ5_inflateIfNeededFor_a7421_11 (by omega) (by omega) (by omega) c_codS (fun r μ' hz => ?_)
    obtain ⟨rfl, rfl⟩ := hz
    refine r_icmp_eq g 21 dJ5_inflateIfNeededFor_a7421_14 (by decide) (fun _ => ?_) (fun c => absurd (rfl) c)
    exact hr.1 rfl _ _ _ _ _ dJ5_inflateIfNeededFor_a7421_21 (Nat.le_refl _) (Nat.le_refl _) ⟨rfl, rfl⟩)
theorem c_getB {p : Nat} (hd : 1 ≤ d) (hs : hS μ b = some (1, N)) (hp : p + 2 ≤ N) (hN : N ≤ 400) : xC d yJ0_getBytes_840e7 cJ0_getBytes_840e7 4 none 0 0 [.ref (ro 7), .ref b, .int (nI p), .int 0] μ ro (fun r μ' => r = none ∧ μ' = wRow μ b (va_cpy (fun j => ([32, 62] : List Int32).getD j 0) (hI μ b) 0 p 2)) :=
  xC_intro (own := RJ0) (lv := [(0, .ref (ro 7)), (1, .ref b), (2, .int (nI p)), (3, .int 0)]) (by decide) rfl (Nat.le_of_ble_eq_true rfl) rfl (fun J g hr => by
    refine r_aload_n g dJ0_getBytes_840e7_0 rfl ?_
    refine r_callVR (d' := d - 1) (st := []) (As := []) g sJ0_335 iJ0_coder_7d493 eJ0_coder_7d493 (List.mem_of_getElem? (i := 1) rfl) rfl (Nat.le_of_ble_eq_true rfl) dJ0_getBytes_840e7_1 (by omega) (by omega) (by omega) c_codS (fun r μ' hz => ?_)
    obtain ⟨rfl, rfl⟩ := hz
    refine r_iload_n g dJ0_getBytes_840e7_4 rfl ?_
    refine r_icmp_ne g 28 dJ0_getBytes_840e7_5 (by decide) (fun c => absurd (rfl) c) (fun _ => ?_)
    refine r_aload_n g dJ0_getBytes_840e7_8 rfl ?_
    refine r_fldRO g (List.mem_of_getElem? (i := 3) rfl) zJ0_9 dJ0_getBytes_840e7_9 ?_
    refine r_iconst g 0 dJ0_getBytes_840e7_12 (by decide) ?_
    refine r_aload_n g dJ0_getBytes_840e7_13 rfl ?_
    refine r_iload_n g dJ0_getBytes_840e7_14 rfl ?_
    refine r_iload_n g dJ0_getBytes_840e7_15 rfl ?_
    refine r_ishl g dJ0_getBytes_840e7_16 ?_
    refine r_nmV (.int (nI p)) (by rw [shl00]) ?_
    refine r_aload_n g dJ0_getBytes_840e7_17 rfl ?_
    refine r_fldRO g (List.mem_of_getElem? (i := 3) rfl) zJ0_9 dJ0_getBytes_840e7_18 ?_
    refine r_tabLen g (List.mem_of_getElem? (i := 4) rfl) dJ0_getBytes_840e7_21 ?_
    refine r_nmV (.int (nI 2)) rfl ?_
    refine r_copyT g (fun j => ([32, 62] : List Int32).getD j 0) tJ0_212 hd (Nat.le_of_ble_eq_true rfl) (List.mem_of_getElem? (i := 4) rfl) rfl hs ⟨by decide, nI_pos (by omega), by decide, by decide, by rw [nI_clamp (by omega), nI_clamp (by omega)]; exact hp⟩ (fun i hi => by
      rw [nI_clamp (by omega)] at hi
      have : i = 0 ∨ i = 1 := by omega
      rcases this with rfl | rfl <;> decide) dJ0_getBytes_840e7_22 ?_
    rw [nI_clamp (by omega), nI_clamp (by omega)]
    refine r_goto g 43 dJ0_getBytes_840e7_25 (by decide) ?_
    exact hr.1 rfl _ _ _ _ _ dJ0_getBytes_840e7_43 (Nat.le_refl _) (Nat.le_refl _) ⟨rfl, rfl⟩)
theorem c_putS {p : Nat} (hd : 2 ≤ d) (h : sb μ a b N l) (hp : p + 2 ≤ N) : xC d yJ5_putStringAt_47b60 cJ5_putStringAt_47b60 3 none 0 0 [.ref a, .int (nI p), .ref (ro 7)] μ ro (fun r μ' => r = none ∧ μ' = wRow μ b (va_cpy (fun j => ([32, 62] : List Int32).getD j 0) (hI μ b) 0 p 2)) :=
  xC_intro (own := RJ5) (lv := [(0, .ref a), (1, .int (nI p)), (2, .ref (ro 7))]) (by decide) rfl (Nat.le_of_ble_eq_true rfl) rfl (fun J g hr => by
    refine r_aload_n g dJ5_putStringAt_47b60_0 rfl ?_
    refine r_aload_n g dJ5_putStringAt_47b60_1 rfl ?_
    refine r_callUO (d' := d - 1) (st := []) (As := [.ref (ro 7)]) g uJ5_397 rfl (h.1.1) rfl (Nat.le_of_ble_eq_true rfl) dJ5_putStringAt_47b60_2 (by omega) (by omega) (by omega) (c_infl (by omega) h) (fun r μ' hz => ?_)
    obtain ⟨rfl, rfl⟩ := hz
    refine r_aload_n g dJ5_putStringAt_47b60_5 rfl ?_
    refine r_aload_n g dJ5_putStringAt_47b60_6 rfl ?_
    refine r_getR g fJ5_15 rfl (h.1.1) (h.1.2.1) dJ5_putStringAt_47b60_7 ?_
    refine r_iload_n g dJ5_putStringAt_47b60_10 rfl ?_
    refine r_aload_n g dJ5_putStringAt_47b60_11 rfl ?_
    refine r_getI g fJ5_22 rfl (h.1.1) dJ5_putStringAt_47b60_12 ?_
    refine r_nmV (.int 0) (by rw [h.1.2.2.1]) ?_
    refine r_callVR (d' := d - 1) (st := []) (As := [.ref b, .int (nI p), .int 0]) g sJ5_399 iJ0_getBytes_840e7 eJ0_getBytes_840e7 (List.mem_of_getElem? (i := 1) rfl) rfl (Nat.le_of_ble_eq_true rfl) dJ5_putStringAt_47b60_15 (by omega) (by omega) (by omega) (c_getB (by omega) h.2.1.1 hp h.2.1.2.2.2) (fun r μ' hz => ?_)
    obtain ⟨rfl, rfl⟩ := hz
    exact hr.1 rfl _ _ _ _ _ dJ5_putStringAt_47b60_18 (Nat.le_refl _) (Nat.le_refl _) ⟨rfl, rfl⟩)
theorem c_apS (hd : 4 ≤ d) (h : sb μ a b N l) (hl : l.length + 2 ≤ 190) : xC d yJ5_append_cf1ce cJ5_append_cf1ce 3 (some (.object "java/lang/AbstractStringBuilder")) (gC N (l.length + 2)) (gS N (l.length + 2)) [.ref a, .ref (ro 7)] μ ro (fun r μ' => r = some (.ref a) ∧ ∃ b', sb μ' a b' (gN N (l.length + 2)) (l ++ [32, 62]) ∧ sF a b b' μ μ') :=
  xC_intro (own := RJ5) (lv := [(0, .ref a), (1, .ref (ro 7))]) (by decide) rfl (Nat.le_of_ble_eq_true rfl) rfl (fun J g hr => by
    refine r_aload_n g dJ5_append_cf1ce_0 rfl ?_
    refine r_ifnonnull g 9 dJ5_append_cf1ce_1 (by decide) ?_
    refine r_aload_n g dJ5_append_cf1ce_9 rfl ?_
    refine r_callVR (d' := d - 1) (st := []) (As := []) g sJ5_32 iJ0_length_8abf5 eJ0_length_8abf5 (List.mem_of_getElem? (i := 1) rfl) rfl (Nat.le_of_ble_eq_true rfl) dJ5_append_cf1ce_10 (by omega) (by omega) (by omega) (c_lenS (by omega)) (fun r μ' hz => ?_)
    obtain ⟨rfl, rfl⟩ := hz
    refine r_istore_n g [(2, .int (nI 2)), (0, .ref a), (1, .ref (ro 7))] dJ5_append_cf1ce_13 (by decide) rfl ?_
    refine r_aload_n g dJ5_append_cf1ce_14 rfl ?_
    refine r_aload_n g dJ5_append_cf1ce_15 rfl ?_
    refine r_getI g fJ5_79 rfl (h.1.1) dJ5_append_cf1ce_16 ?_
    refine r_nmV (.int (nI l.length)) (by rw [h.1.2.2.2]) ?_
    refine r_iload_n g dJ5_append_cf1ce_19 rfl ?_
    refine r_iadd g dJ5_append_cf1ce_20 ?_
    refine r_nmV (.int (nI (l.length + 2))) (by rw [nIadd]) ?_
    refine r_callUO (d' := d - 1) (st := []) (As := [.int (nI (l.length + 2))]) g uJ5_100 rfl (h.1.1) rfl (Nat.le_of_ble_eq_true rfl) dJ5_append_cf1ce_21 (by omega) (by omega) (by omega) (c_ens (by omega) h (by omega)) (fun r μ1 hz => ?_)
    obtain ⟨rfl, b1, h1, hF⟩ := hz
    have hle := (gN_ge (N := N) (q := l.length + 2)).1
    refine r_aload_n g dJ5_append_cf1ce_24 rfl ?_
    refine r_aload_n g dJ5_append_cf1ce_25 rfl ?_
    refine r_getI g fJ5_79 rfl (h1.1.1) dJ5_append_cf1ce_26 ?_
    refine r_nmV (.int (nI l.length)) (by rw [h1.1.2.2.2]) ?_
    refine r_aload_n g dJ5_append_cf1ce_29 rfl ?_
    refine r_callUO (d' := d - 1) (st := []) (As := [.int (nI l.length), .ref (ro 7)]) g uJ5_208 rfl (h1.1.1) rfl (Nat.le_of_ble_eq_true rfl) dJ5_append_cf1ce_30 (by omega) (by omega) (by omega) (c_putS (by omega) h1 (by omega)) (fun r μ' hz => ?_)
    obtain ⟨rfl, rfl⟩ := hz
    have e9 : hI (wRow μ1 b1 (va_cpy (fun j => ([32, 62] : List Int32).getD j 0) (hI μ1 b1) 0 l.length 2)) a = hI μ1 a := hI_wRow_n _ _ h1.ne.symm
    refine r_aload_n g dJ5_append_cf1ce_33 rfl ?_
    refine r_dup g dJ5_append_cf1ce_34 rfl ?_
    refine r_getI g fJ5_79 rfl (h1.1.1) dJ5_append_cf1ce_35 ?_
    refine r_nmV (.int (nI l.length)) (by rw [e9, h1.1.2.2.2]) ?_
    refine r_iload_n g dJ5_append_cf1ce_38 rfl ?_
    refine r_iadd g dJ5_append_cf1ce_39 ?_
    refine r_nmV (.int (nI (l.length + 2))) (by rw [nIadd]) ?_
    refine r_putI g fJ5_79 rfl h1.1.1 rfl rfl dJ5_append_cf1ce_40 ?_
    refine r_aload_n g dJ5_append_cf1ce_43 rfl ?_
    have hz := h1.app (w := [32, 62]) (μ' := wI (wRow μ1 b1 (va_cpy (fun j => ([32, 62] : List Int32).getD j 0) (hI μ1 b1) 0 l.length 2)) a 3 (nI (l.length + 2))) hle (by decide) ⟨rfl, rfl, rfl⟩ (fun c hc hc2 => by rw [hI_wI_n _ _ _ hc, hI_wRow_n _ _ hc2]) ⟨by rw [hI_wI_s, upd_n _ (by decide), e9]; exact h1.1.2.2.1, by rw [hI_wI_s, upd_s]; rfl⟩ (fun j hj => by rw [hI_wI_n _ _ _ h1.ne, hI_wRow_s]; unfold va_cpy; rw [if_neg (by omega)]) (fun j c hj => by
      rw [hI_wI_n _ _ _ h1.ne, hI_wRow_s]; unfold va_cpy
      match j, hj with
      | 0, hj => cases hj; rw [if_pos (by omega), show 0 + (l.length + 0 - l.length) = 0 by omega]; rfl
      | 1, hj => cases hj; rw [if_pos (by omega), show 0 + (l.length + 1 - l.length) = 1 by omega]; rfl
      | j + 2, hj => cases hj) (fun j => by
      rw [hI_wI_n _ _ _ h1.ne, hI_wRow_s]; unfold va_cpy
      by_cases q : l.length ≤ j ∧ j < l.length + 2
      · rw [if_pos q]
        have : 0 + (j - l.length) = 0 ∨ 0 + (j - l.length) = 1 := by omega
        rcases this with e | e <;> rw [e] <;> decide
      · rw [if_neg q]; exact h1.2.2.1 j)
    exact hr.2.2.2 _ rfl (Or.inl ⟨_, rfl⟩) _ _ _ _ _ _ dJ5_append_cf1ce_44 (Or.inr ⟨_, rfl⟩) (by omega) (by omega) ⟨rfl, b1, hz.1, hF.tt h.2.1.1 hz.2⟩)
end sbd
