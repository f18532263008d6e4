/-! the builder as it stands: object a, its bytes b (N of them), its text l -/
def sb (μ : Hp) (a b N : Nat) (l : List Nat) : Prop :=
  (hS μ a = some (4, 4) ∧ hR μ a 0 = some b ∧ hI μ a 1 = 0 ∧ hI μ a 3 = nI l.length) ∧ (hS μ b = some (1, N) ∧ l.length ≤ N ∧ 16 ≤ N ∧ N ≤ 400) ∧ (∀ j, fits .byte (.int (hI μ b j)) = true) ∧ ∀ j c, l[j]? = some c → c < 128 ∧ hI μ b j = nI c
/-- what a builder's method leaves alone -/
def sF (a b b' : Nat) (μ μ' : Hp) : Prop := (b' = b ∨ hS μ b' = none) ∧ (∀ c x, hS μ c = some x → hS μ' c = some x) ∧ ∀ c x, c ≠ a → c ≠ b → hS μ c = some x → hI μ' c = hI μ c ∧ hL μ' c = hL μ c ∧ hR μ' c = hR μ c
theorem sF.rf {a b : Nat} {μ : Hp} : sF a b b μ μ := ⟨Or.inl rfl, fun _ _ h => h, fun _ _ _ _ _ => ⟨rfl, rfl, rfl⟩⟩
theorem sF.tt {a b b1 b2 : Nat} {μ μ1 μ2 : Hp} {x : Nat × Nat} (hb : hS μ b = some x) (h : sF a b b1 μ μ1) (h2 : sF a b1 b2 μ1 μ2) : sF a b b2 μ μ2 := by
  obtain ⟨e1, e2, e3⟩ := h
  obtain ⟨f1, f2, f3⟩ := h2
  refine ⟨?_, fun c x hc => f2 c x (e2 c x hc), fun c x ha hb' hc => ?_⟩
  · rcases f1 with rfl | f1
    · exact e1
    · rcases e1 with rfl | e1
      · right
        cases h9 : hS μ b2 with
        | none => rfl
        | some y => rw [e2 _ _ h9] at f1; cases f1
      · right
        cases h9 : hS μ b2 with
        | none => rfl
        | some y => rw [e2 _ _ h9] at f1; cases f1
  · have hcb : c ≠ b1 := by
      rcases e1 with rfl | e1
      · exact hb'
      · intro e; subst e; rw [e1] at hc; cases hc
    obtain ⟨g1, g2, g3⟩ := e3 c x ha hb' hc
    obtain ⟨k1, k2, k3⟩ := f3 c x ha hcb (e2 c x hc)
    exact ⟨k1.trans g1, k2.trans g2, k3.trans g3⟩
def gN (N q : Nat) : Nat := if q ≤ N then N else max q (2 * N + 2)
def gC (N q : Nat) : Nat := if q ≤ N then 0 else 1
def gS (N q : Nat) : Nat := if q ≤ N then 0 else max q (2 * N + 2)
section sbc
variable {d : Nat} {ro : Nat → Nat} {μ : Hp} {a b N : Nat} {l : List Nat}
theorem sb.ne (h : sb μ a b N l) : b ≠ a := by
  intro e
  have h1 := h.1.1
  have h2 := h.2.1.1
  rw [e, h1] at h2
  cases h2
theorem c_isL (h : sb μ a b N l) : xC d yJ5_isLatin1_aae02 cJ5_isLatin1_aae02 1 (some .boolean) 0 0 [.ref a] μ ro (fun r μ' => r = some (.int 1) ∧ μ' = μ) :=
  xC_intro (own := RJ5) (lv := [(0, .ref a)]) (by decide) rfl (Nat.le_of_ble_eq_true rfl) rfl (fun J g hr => by
    refine r_getsRO g (List.mem_of_getElem? (i := 5) rfl) zJ5_18 dJ5_isLatin1_aae02_0 ?_
    refine r_if_eq g 17 dJ5_isLatin1_aae02_3 (by decide) (fun c => absurd c (by decide)) (fun _ => ?_)
    refine r_aload_n g dJ5_isLatin1_aae02_6 rfl ?_
    refine r_getI g fJ5_22 rfl (h.1.1) dJ5_isLatin1_aae02_7 ?_
    refine r_nmV (.int 0) (by rw [h.1.2.2.1]) ?_
    refine r_if_ne g 17 dJ5_isLatin1_aae02_10 (by decide) (fun c => absurd (rfl) c) (fun _ => ?_)
    refine r_iconst g 1 dJ5_isLatin1_aae02_13 (by decide) ?_
    refine r_goto g 18 dJ5_isLatin1_aae02_14 (by decide) ?_
    exact hr.2.1 _ rfl _ _ _ _ _ _ dJ5_isLatin1_aae02_18 rfl (Nat.le_refl _) (Nat.le_refl _) ⟨rfl, rfl⟩)
theorem c_canE {x : Nat} (hc : x < 128) : xC d yJ1_canEncode_fc78d cJ1_canEncode_fc78d 1 (some .boolean) 0 0 [.int (nI x)] μ ro (fun r μ' => r = some (.int 1) ∧ μ' = μ) :=
  xC_intro (own := RJ1) (lv := [(0, .int (nI x))]) (by decide) rfl (Nat.le_of_ble_eq_true rfl) rfl (fun J g hr => by
    refine r_iload_n g dJ1_canEncode_fc78d_0 rfl ?_
    refine r_sipush g 255 dJ1_canEncode_fc78d_1 (by decide) ?_
    refine r_icmp_gt g 11 dJ1_canEncode_fc78d_4 (by decide) (fun c => absurd c (nI_nlt (a := 255) (b := x) (by omega) (by omega))) (fun _ => ?_)
    refine r_iconst g 1 dJ1_canEncode_fc78d_7 (by decide) ?_
    refine r_goto g 12 dJ1_canEncode_fc78d_8 (by decide) ?_
    exact hr.2.1 _ rfl _ _ _ _ _ _ dJ1_canEncode_fc78d_12 rfl (Nat.le_refl _) (Nat.le_refl _) ⟨rfl, rfl⟩)
theorem c_nlen {q : Nat} (hd : 1 ≤ d) (hN : N ≤ 400) (hq : N < q) (hq4 : q ≤ 400) : xC d yJ8_newLength_cabcc cJ8_newLength_cabcc 4 (some .int) 0 0 [.int (nI N), .int (nI (q - N)), .int (nI (N + 2))] μ ro (fun r μ' => r = some (.int (nI (max q (2 * N + 2)))) ∧ μ' = μ) :=
  xC_intro (own := RJ8) (lv := [(0, .int (nI N)), (1, .int (nI (q - N))), (2, .int (nI (N + 2)))]) (by decide) rfl (Nat.le_of_ble_eq_true rfl) rfl (fun J g hr => by
    refine r_iload_n g dJ8_newLength_cabcc_0 rfl ?_
    refine r_iload_n g dJ8_newLength_cabcc_1 rfl ?_
    refine r_iload_n g dJ8_newLength_cabcc_2 rfl ?_
    refine r_mmax g tJ8_194 hd (Nat.le_refl _) (Nat.le_refl _) (Nat.le_of_ble_eq_true rfl) dJ8_newLength_cabcc_3 ?_
    refine r_nmV (.int (nI (max (q - N) (N + 2)))) (by rw [nI_max (by omega) (by omega)]) ?_
    refine r_iadd g dJ8_newLength_cabcc_6 ?_
    refine r_nmV (.int (nI (max q (2 * N + 2)))) (by rw [← nIadd, show N + max (q - N) (N + 2) = max q (2 * N + 2) by omega]) ?_
    refine r_istore_n g [(3, .int (nI (max q (2 * N + 2)))), (0, .int (nI N)), (1, .int (nI (q - N))), (2, .int (nI (N + 2)))] dJ8_newLength_cabcc_7 (by decide) rfl ?_
    refine r_iconst g 0 dJ8_newLength_cabcc_8 (by decide) ?_
    refine r_iload_n g dJ8_newLength_cabcc_9 rfl ?_
    refine r_icmp_ge g 21 dJ8_newLength_cabcc_10 (by decide) (fun c => absurd c (nI_nle (by omega) (by omega))) (fun _ => ?_)
    refine r_iload_n g dJ8_newLength_cabcc_13 rfl ?_
    refine r_ldc g 2147483639 kJ8_200 dJ8_newLength_cabcc_14 ?_
    refine r_icmp_gt g 21 dJ8_newLength_cabcc_16 (by decide) (fun c => absurd c (nI_nlt (a := 2147483639) (b := max q (2 * N + 2)) (by omega) (by omega))) (fun _ => ?_)
    refine r_iload_n g dJ8_newLength_cabcc_19 rfl ?_
    exact hr.2.1 _ rfl _ _ _ _ _ _ dJ8_newLength_cabcc_20 rfl (Nat.le_refl _) (Nat.le_refl _) ⟨rfl, rfl⟩)
theorem c_ncap {q : Nat} (hd : 2 ≤ d) (h : sb μ a b N l) (hq : N < q) (hq4 : q ≤ 400) : xC d yJ5_newCapacity_0f7a4 cJ5_newCapacity_0f7a4 6 (some .int) 0 0 [.ref a, .int (nI q)] μ ro (fun r μ' => r = some (.int (nI (max q (2 * N + 2)))) ∧ μ' = μ) :=
  xC_intro (own := RJ5) (lv := [(0, .ref a), (1, .int (nI q))]) (by decide) rfl (Nat.le_of_ble_eq_true rfl) rfl (fun J g hr => by
    refine r_aload_n g dJ5_newCapacity_0f7a4_0 rfl ?_
    refine r_getR g fJ5_15 rfl (h.1.1) (h.1.2.1) dJ5_newCapacity_0f7a4_1 ?_
    refine r_alenB g h.2.1.1 dJ5_newCapacity_0f7a4_4 ?_
    refine r_nmV (.int (nI N)) rfl ?_
    refine r_istore_n g [(2, .int (nI N)), (0, .ref a), (1, .int (nI q))] dJ5_newCapacity_0f7a4_5 (by decide) rfl ?_
    refine r_iload_n g dJ5_newCapacity_0f7a4_6 rfl ?_
    refine r_aload_n g dJ5_newCapacity_0f7a4_7 rfl ?_
    refine r_getI g fJ5_22 rfl (h.1.1) dJ5_newCapacity_0f7a4_8 ?_
    refine r_nmV (.int 0) (by rw [h.1.2.2.1]) ?_
    refine r_ishl g dJ5_newCapacity_0f7a4_11 ?_
    refine r_nmV (.int (nI q)) (by rw [shl00]) ?_
    refine r_istore_n g [(3, .int (nI q)), (2, .int (nI N)), (0, .ref a), (1, .int (nI q))] dJ5_newCapacity_0f7a4_12 (by decide) rfl ?_
    refine r_iload_n g dJ5_newCapacity_0f7a4_13 rfl ?_
    refine r_iload_n g dJ5_newCapacity_0f7a4_14 rfl ?_
    refine r_isub g dJ5_newCapacity_0f7a4_15 ?_
    refine r_nmV (.int (nI (q - N))) (by rw [nI_sub (by omega)]) ?_
    refine r_istore g [(4, .int (nI (q - N))), (3, .int (nI q)), (2, .int (nI N)), (0, .ref a), (1, .int (nI q))] dJ5_newCapacity_0f7a4_16 (by decide) rfl ?_
    refine r_iload_n g dJ5_newCapacity_0f7a4_18 rfl ?_
    refine r_iload g dJ5_newCapacity_0f7a4_19 rfl ?_
    refine r_iload_n g dJ5_newCapacity_0f7a4_21 rfl ?_
    refine r_iconst g 2 dJ5_newCapacity_0f7a4_22 (by decide) ?_
    refine r_aload_n g dJ5_newCapacity_0f7a4_23 rfl ?_
    refine r_getI g fJ5_22 rfl (h.1.1) dJ5_newCapacity_0f7a4_24 ?_
    refine r_nmV (.int 0) (by rw [h.1.2.2.1]) ?_
    refine r_ishl g dJ5_newCapacity_0f7a4_27 ?_
    refine r_nmV (.int 2) (by rw [shl00]) ?_
    refine r_iadd g dJ5_newCapacity_0f7a4_28 ?_
    refine r_nmV (.int (nI (N + 2))) (by rw [nIadd]; rfl) ?_
    refine r_callS (d' := d - 1) (st := []) (As := [.int (nI N), .int (nI (q - N)), .int (nI (N + 2))]) g sJ5_114 iJ8_newLength_cabcc rfl (Nat.le_of_ble_eq_true rfl) dJ5_newCapacity_0f7a4_29 (by omega) (Nat.le_refl _) (Nat.le_refl _) (c_nlen (by omega) h.2.1.2.2.2 hq hq4) (fun r μ' hz => ?_)
    obtain ⟨rfl, rfl⟩ := hz
    refine r_istore g [(5, .int (nI (max q (2 * N + 2)))), (4, .int (nI (q - N))), (3, .int (nI q)), (2, .int (nI N)), (0, .ref a), (1, .int (nI q))] dJ5_newCapacity_0f7a4_32 (by decide) rfl ?_
    refine r_iload g dJ5_newCapacity_0f7a4_34 rfl ?_
    refine r_ldc g 2147483647 kJ5_39 dJ5_newCapacity_0f7a4_36 ?_
    refine r_icmp_ne g 51 dJ5_newCapacity_0f7a4_38 (by decide) (fun _ => ?_) (fun c => absurd c (Int32.ne_of_lt (nI_lt (a := max q (2 * N + 2)) (b := 2147483647) (by have := h.2.1.2.2.2; omega) (by omega))))
    refine r_iload g dJ5_newCapacity_0f7a4_51 rfl ?_
    refine r_aload_n g dJ5_newCapacity_0f7a4_53 rfl ?_
    refine r_getI g fJ5_22 rfl (h.1.1) dJ5_newCapacity_0f7a4_54 ?_
    refine r_nmV (.int 0) (by rw [h.1.2.2.1]) ?_
    refine r_ishr g dJ5_newCapacity_0f7a4_57 ?_
    refine r_nmV (.int (nI (max q (2 * N + 2)))) (by rw [shr00]) ?_
    exact hr.2.1 _ rfl _ _ _ _ _ _ dJ5_newCapacity_0f7a4_58 rfl (Nat.le_refl _) (Nat.le_refl _) ⟨rfl, rfl⟩)
theorem c_cpOf {q : Nat} (hd : 1 ≤ d) (hs : hS μ b = some (1, N)) (hN : N ≤ 400) (hf : ∀ j, fits .byte (.int (hI μ b j)) = true) (hq : N < q) (hq4 : q ≤ 1000) : xC d yJ7_copyOf_9075b cJ7_copyOf_9075b 3 (some (.array .byte)) 1 q [.ref b, .int (nI q)] μ ro (fun r μ' => ∃ b', r = some (.ref b') ∧ hS μ b' = none ∧ μ' = wRow (wN μ b' 1 q) b' (fun j => if j < N then hI μ b j else 0)) :=
  xC_intro (own := RJ7) (lv := [(0, .ref b), (1, .int (nI q))]) (by decide) rfl (Nat.le_of_ble_eq_true rfl) rfl (fun J g hr => by
    refine r_iload_n g dJ7_copyOf_9075b_0 rfl ?_
    refine r_aload_n g dJ7_copyOf_9075b_1 rfl ?_
    refine r_alenB g hs dJ7_copyOf_9075b_2 ?_
    refine r_nmV (.int (nI N)) rfl ?_
    refine r_icmp_ne g 14 dJ7_copyOf_9075b_3 (by decide) (fun _ => ?_) (fun c => absurd c (fun e => by
      have := congrArg Int32.toNatClampNeg e
      rw [nI_clamp (by omega), nI_clamp (by omega)] at this
      omega))
    refine r_iload_n g dJ7_copyOf_9075b_14 rfl ?_
    refine r_newB g q (nI_pos (by omega)) (nI_clamp (by omega)) (by omega) (Nat.le_refl _) (by omega) dJ7_copyOf_9075b_15 (fun b' hb' => ?_)
    have hne : b ≠ b' := fun e => by rw [e, hb'] at hs; cases hs
    have hs1 : hS (wN μ b' 1 q) b = some (1, N) := hS_wN_o hs hb'
    have hi1 : hI (wN μ b' 1 q) b = hI μ b := va_up_ne _ _ hne
    refine r_astore_n g [(2, .ref b'), (0, .ref b), (1, .int (nI q))] dJ7_copyOf_9075b_17 (by decide) rfl ?_
    refine r_aload_n g dJ7_copyOf_9075b_18 rfl ?_
    refine r_iconst g 0 dJ7_copyOf_9075b_19 (by decide) ?_
    refine r_aload_n g dJ7_copyOf_9075b_20 rfl ?_
    refine r_iconst g 0 dJ7_copyOf_9075b_21 (by decide) ?_
    refine r_aload_n g dJ7_copyOf_9075b_22 rfl ?_
    refine r_alenB g hs1 dJ7_copyOf_9075b_23 ?_
    refine r_nmV (.int (nI N)) rfl ?_
    refine r_iload_n g dJ7_copyOf_9075b_24 rfl ?_
    refine r_mmin g tJ7_304 hd (by omega) (by omega) (Nat.le_of_ble_eq_true rfl) dJ7_copyOf_9075b_25 ?_
    refine r_nmV (.int (nI N)) (by have := nI_min (a := N) (b := q) (by omega) (by omega); rw [Nat.min_eq_left (by omega)] at this; exact congrArg _ this) ?_
    refine r_copyb g tJ7_150 hd (Nat.le_of_ble_eq_true rfl) hs1 (hS_wN μ b' 1 q) ⟨by decide, by decide, nI_pos (by omega), by rw [nI_clamp (by omega)]; show 0 + N ≤ N; omega, by rw [nI_clamp (by omega)]; show 0 + N ≤ q; omega⟩ (fun i _ => by rw [hi1]; exact hf _) dJ7_copyOf_9075b_28 ?_
    rw [hi1, nI_clamp (by omega), show hI (wN μ b' 1 q) b' = fun _ => 0 from va_up_self _ _ _]
    refine r_aload_n g dJ7_copyOf_9075b_31 rfl ?_
    exact hr.2.2.2 _ rfl (Or.inr ⟨_, rfl⟩) _ _ _ _ _ _ dJ7_copyOf_9075b_32 (Or.inr ⟨_, rfl⟩) (by omega) (by omega) ⟨b', rfl, hb', by
      congr 1
      funext j
      show (if (0 ≤ j ∧ j < 0 + N) then hI μ b (0 + (j - 0)) else (0 : Int32)) = _
      rw [Nat.zero_add, Nat.zero_add, Nat.sub_zero]
      by_cases e : j < N
      · rw [if_pos e, if_pos ⟨Nat.zero_le _, e⟩]
      · rw [if_neg e, if_neg (fun c => e c.2)]⟩)
end sbc

