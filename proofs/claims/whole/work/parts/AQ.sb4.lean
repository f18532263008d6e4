section sbe
variable {d : Nat} {ro : Nat → Nat} {μ : Hp} {a b N : Nat} {l : List Nat}
/-- what is written into bytes b from place p on -/
def gP (b p : Nat) (w : List Nat) (μ μ' : Hp) : Prop := (hL μ' = hL μ ∧ hR μ' = hR μ ∧ hS μ' = hS μ) ∧ (∀ c, c ≠ b → hI μ' c = hI μ c) ∧ (∀ j, j < p → hI μ' b j = hI μ b j) ∧ (∀ j c, w[j]? = some c → hI μ' b (p + j) = nI c) ∧ ∀ j, fits .byte (.int (hI μ b j)) = true → fits .byte (.int (hI μ' b j)) = true
theorem upd_fit {f : Nat → Int32} {k c j : Nat} (hc : c < 128) (h : fits .byte (.int (f j)) = true) : fits .byte (.int (upd f k (nI c) j)) = true := by
  by_cases e : j = k
  · subst e; rw [upd_s]; exact (chr_ok c hc).1
  · rw [upd_n _ e]; exact h
theorem c_apC {x : Nat} (hd : 4 ≤ d) (h : sb μ a b N l) (hl : l.length + 1 ≤ 190) (hx : x < 128) : xC d yJ5_append_3fe6f cJ5_append_3fe6f 2 (some (.object "java/lang/AbstractStringBuilder")) (gC N (l.length + 1)) (gS N (l.length + 1)) [.ref a, .int (nI x)] μ ro (fun r μ' => r = some (.ref a) ∧ ∃ b', sb μ' a b' (gN N (l.length + 1)) (l ++ [x]) ∧ sF a b b' μ μ') :=
  xC_intro (own := RJ5) (lv := [(0, .ref a), (1, .int (nI x))]) (by decide) rfl (Nat.le_of_ble_eq_true rfl) rfl (fun J g hr => by
    refine r_aload_n g dJ5_append_3fe6f_0 rfl ?_
    refine r_aload_n g dJ5_append_3fe6f_1 rfl ?_
    refine r_getI g fJ5_79 rfl (h.1.1) dJ5_append_3fe6f_2 ?_
    refine r_nmV (.int (nI l.length)) (by rw [h.1.2.2.2]) ?_
    refine r_iconst g 1 dJ5_append_3fe6f_5 (by decide) ?_
    refine r_iadd g dJ5_append_3fe6f_6 ?_
    refine r_nmV (.int (nI (l.length + 1))) (by rw [nIadd]; rfl) ?_
    refine r_callUO (d' := d - 1) (st := []) (As := [.int (nI (l.length + 1))]) g uJ5_100 rfl (h.1.1) rfl (Nat.le_of_ble_eq_true rfl) dJ5_append_3fe6f_7 (by omega) (by omega) (by omega) (c_ens (by omega) h (by omega)) (fun r μ1 hz => ?_)
    obtain ⟨rfl, b1, h1, hF⟩ := hz
    have hle := (gN_ge (N := N) (q := l.length + 1)).1
    refine r_aload_n g dJ5_append_3fe6f_10 rfl ?_
    refine r_callUO (d' := d - 1) (st := []) (As := []) g uJ5_83 rfl (h1.1.1) rfl (Nat.le_of_ble_eq_true rfl) dJ5_append_3fe6f_11 (by omega) (by omega) (by omega) (c_isL h1) (fun r μ2 hz => ?_)
    obtain ⟨rfl, rfl⟩ := hz
    refine r_if_eq g 45 dJ5_append_3fe6f_14 (by decide) (fun c => absurd c (by decide)) (fun _ => ?_)
    refine r_iload_n g dJ5_append_3fe6f_17 rfl ?_
    refine r_callS (d' := d - 1) (st := []) (As := [.int (nI x)]) g sJ5_191 iJ1_canEncode_fc78d rfl (Nat.le_of_ble_eq_true rfl) dJ5_append_3fe6f_18 (by omega) (by omega) (by omega) (c_canE hx) (fun r μ3 hz => ?_)
    obtain ⟨rfl, rfl⟩ := hz
    refine r_if_eq g 45 dJ5_append_3fe6f_21 (by decide) (fun c => absurd c (by decide)) (fun _ => ?_)
    refine r_aload_n g dJ5_append_3fe6f_24 rfl ?_
    refine r_getR g fJ5_15 rfl (h1.1.1) (h1.1.2.1) dJ5_append_3fe6f_25 ?_
    refine r_aload_n g dJ5_append_3fe6f_28 rfl ?_
    refine r_dup g dJ5_append_3fe6f_29 rfl ?_
    refine r_getI g fJ5_79 rfl (h1.1.1) dJ5_append_3fe6f_30 ?_
    refine r_nmV (.int (nI l.length)) (by rw [h1.1.2.2.2]) ?_
    refine r_dup_x1 g dJ5_append_3fe6f_33 rfl rfl ?_
    refine r_iconst g 1 dJ5_append_3fe6f_34 (by decide) ?_
    refine r_iadd g dJ5_append_3fe6f_35 ?_
    refine r_nmV (.int (nI (l.length + 1))) (by rw [nIadd]; rfl) ?_
    refine r_putI g fJ5_79 rfl h1.1.1 rfl rfl dJ5_append_3fe6f_36 ?_
    refine r_iload_n g dJ5_append_3fe6f_39 rfl ?_
    refine r_i2b g dJ5_append_3fe6f_40 ?_
    refine r_nmV (.int (nI x)) (by rw [(chr_ok x hx).2.2.1]) ?_
    refine r_bastore g (show hS (wI _ _ _ _) b1 = _ from h1.2.1.1) (vp_in_nI (by omega) (by have := h1.2.1.2.2.2; omega)) dJ5_append_3fe6f_41 ?_
    rw [nI_clamp (by omega), (chr_ok x hx).2.1]
    refine r_goto g 75 dJ5_append_3fe6f_42 (by decide) ?_
    refine r_aload_n g dJ5_append_3fe6f_75 rfl ?_
    have e8 : hI (wI (wI μ3 a 3 (nI (l.length + 1))) b1 l.length (nI x)) b1 = upd (hI μ3 b1) l.length (nI x) := by rw [hI_wI_s, hI_wI_n _ _ _ h1.ne]
    have e7 : hI (wI (wI μ3 a 3 (nI (l.length + 1))) b1 l.length (nI x)) a = upd (hI μ3 a) 3 (nI (l.length + 1)) := by rw [hI_wI_n _ _ _ h1.ne.symm, hI_wI_s]
    have hz := h1.app (w := [x]) (μ' := wI (wI μ3 a 3 (nI (l.length + 1))) b1 l.length (nI x)) hle (fun c hc => by rw [List.mem_singleton.mp hc]; exact hx) ⟨rfl, rfl, rfl⟩ (fun c hc hc2 => by rw [hI_wI_n _ _ _ hc2, hI_wI_n _ _ _ hc]) ⟨by rw [e7, upd_n _ (by decide)]; exact h1.1.2.2.1, by rw [e7, upd_s]; rfl⟩ (fun j hj => by rw [e8, upd_n _ (by omega)]) (fun j c hj => by
      match j, hj with
      | 0, hj => cases hj; rw [e8, Nat.add_zero, upd_s]
      | j + 1, hj => cases hj) (fun j => by rw [e8]; exact upd_fit hx (h1.2.2.1 j))
    exact hr.2.2.2 _ rfl (Or.inl ⟨_, rfl⟩) _ _ _ _ _ _ dJ5_append_3fe6f_76 (Or.inr ⟨_, rfl⟩) (by omega) (by omega) ⟨rfl, b1, hz.1, hF.tt h.2.1.1 hz.2⟩)
theorem c_ss1 {x : Nat} (hx : x ≤ 100) (h10 : x < 10) : xC d yJ6_stringSize_0f7a4 cJ6_stringSize_0f7a4 4 (some .int) 0 0 [.int (nI x)] μ ro (fun r μ' => r = some (.int (nI (dg x).length)) ∧ μ' = μ) :=
  xC_intro (own := RJ6) (lv := [(0, .int (nI x))]) (by decide) rfl (Nat.le_of_ble_eq_true rfl) rfl (fun J g hr => by
    refine r_iconst g 1 dJ6_stringSize_0f7a4_0 (by decide) ?_
    refine r_istore_n g [(1, .int 1), (0, .int (nI x))] dJ6_stringSize_0f7a4_1 (by decide) rfl ?_
    refine r_iload_n g dJ6_stringSize_0f7a4_2 rfl ?_
    refine r_if_lt g 11 dJ6_stringSize_0f7a4_3 (by decide) (fun c => absurd c ((neg_ok x hx).2.2.2.2.2.2.2.2.1)) (fun _ => ?_)
    refine r_iconst g 0 dJ6_stringSize_0f7a4_6 (by decide) ?_
    refine r_istore_n g [(1, .int 0), (0, .int (nI x))] dJ6_stringSize_0f7a4_7 (by decide) rfl ?_
    refine r_iload_n g dJ6_stringSize_0f7a4_8 rfl ?_
    refine r_ineg g dJ6_stringSize_0f7a4_9 ?_
    refine r_nmV (.int (-(nI x))) (rfl) ?_
    refine r_istore_n g [(0, .int (-(nI x))), (1, .int 0)] dJ6_stringSize_0f7a4_10 (by decide) rfl ?_
    refine r_bipush g (-10) dJ6_stringSize_0f7a4_11 (by decide) ?_
    refine r_istore_n g [(2, .int (-10)), (0, .int (-(nI x))), (1, .int 0)] dJ6_stringSize_0f7a4_13 (by decide) rfl ?_
    refine r_iconst g 1 dJ6_stringSize_0f7a4_14 (by decide) ?_
    refine r_istore_n g [(3, .int 1), (2, .int (-10)), (0, .int (-(nI x))), (1, .int 0)] dJ6_stringSize_0f7a4_15 (by decide) rfl ?_
    refine r_iload_n g dJ6_stringSize_0f7a4_16 rfl ?_
    refine r_bipush g 10 dJ6_stringSize_0f7a4_17 (by decide) ?_
    refine r_icmp_ge g 42 dJ6_stringSize_0f7a4_19 (by decide) (fun c => absurd c (by decide)) (fun _ => ?_)
    refine r_iload_n g dJ6_stringSize_0f7a4_22 rfl ?_
    refine r_iload_n g dJ6_stringSize_0f7a4_23 rfl ?_
    refine r_icmp_le g 31 dJ6_stringSize_0f7a4_24 (by decide) (fun c => absurd c ((neg_ok x hx).1 h10)) (fun _ => ?_)
    refine r_iload_n g dJ6_stringSize_0f7a4_27 rfl ?_
    refine r_iload_n g dJ6_stringSize_0f7a4_28 rfl ?_
    refine r_iadd g dJ6_stringSize_0f7a4_29 ?_
    refine r_nmV (.int (nI 1)) (by decide) ?_
    exact hr.2.1 _ rfl _ _ _ _ _ _ dJ6_stringSize_0f7a4_30 rfl (Nat.le_refl _) (Nat.le_refl _) ⟨by unfold dg; rw [if_pos h10]; rfl, rfl⟩)
theorem c_ss2 {x : Nat} (hx : x ≤ 100) (h10 : 10 ≤ x) (h100 : x < 100) : xC d yJ6_stringSize_0f7a4 cJ6_stringSize_0f7a4 4 (some .int) 0 0 [.int (nI x)] μ ro (fun r μ' => r = some (.int (nI (dg x).length)) ∧ μ' = μ) :=
  xC_intro (own := RJ6) (lv := [(0, .int (nI x))]) (by decide) rfl (Nat.le_of_ble_eq_true rfl) rfl (fun J g hr => by
    refine r_iconst g 1 dJ6_stringSize_0f7a4_0 (by decide) ?_
    refine r_istore_n g [(1, .int 1), (0, .int (nI x))] dJ6_stringSize_0f7a4_1 (by decide) rfl ?_
    refine r_iload_n g dJ6_stringSize_0f7a4_2 rfl ?_
    refine r_if_lt g 11 dJ6_stringSize_0f7a4_3 (by decide) (fun c => absurd c ((neg_ok x hx).2.2.2.2.2.2.2.2.1)) (fun _ => ?_)
    refine r_iconst g 0 dJ6_stringSize_0f7a4_6 (by decide) ?_
    refine r_istore_n g [(1, .int 0), (0, .int (nI x))] dJ6_stringSize_0f7a4_7 (by decide) rfl ?_
    refine r_iload_n g dJ6_stringSize_0f7a4_8 rfl ?_
    refine r_ineg g dJ6_stringSize_0f7a4_9 ?_
    refine r_nmV (.int (-(nI x))) (rfl) ?_
    refine r_istore_n g [(0, .int (-(nI x))), (1, .int 0)] dJ6_stringSize_0f7a4_10 (by decide) rfl ?_
    refine r_bipush g (-10) dJ6_stringSize_0f7a4_11 (by decide) ?_
    refine r_istore_n g [(2, .int (-10)), (0, .int (-(nI x))), (1, .int 0)] dJ6_stringSize_0f7a4_13 (by decide) rfl ?_
    refine r_iconst g 1 dJ6_stringSize_0f7a4_14 (by decide) ?_
    refine r_istore_n g [(3, .int 1), (2, .int (-10)), (0, .int (-(nI x))), (1, .int 0)] dJ6_stringSize_0f7a4_15 (by decide) rfl ?_
    refine r_iload_n g dJ6_stringSize_0f7a4_16 rfl ?_
    refine r_bipush g 10 dJ6_stringSize_0f7a4_17 (by decide) ?_
    refine r_icmp_ge g 42 dJ6_stringSize_0f7a4_19 (by decide) (fun c => absurd c (by decide)) (fun _ => ?_)
    refine r_iload_n g dJ6_stringSize_0f7a4_22 rfl ?_
    refine r_iload_n g dJ6_stringSize_0f7a4_23 rfl ?_
    refine r_icmp_le g 31 dJ6_stringSize_0f7a4_24 (by decide) (fun _ => ?_) (fun c => absurd ((neg_ok x hx).2.1 h10) c)
    refine r_bipush g 10 dJ6_stringSize_0f7a4_31 (by decide) ?_
    refine r_iload_n g dJ6_stringSize_0f7a4_33 rfl ?_
    refine r_imul g dJ6_stringSize_0f7a4_34 ?_
    refine r_nmV (.int (-100)) (by decide) ?_
    refine r_istore_n g [(2, .int (-100)), (3, .int 1), (0, .int (-(nI x))), (1, .int 0)] dJ6_stringSize_0f7a4_35 (by decide) rfl ?_
    refine r_iinc g 2 [(3, .int 2), (2, .int (-100)), (0, .int (-(nI x))), (1, .int 0)] dJ6_stringSize_0f7a4_36 rfl (by decide) (by decide) rfl ?_
    refine r_goto g 16 dJ6_stringSize_0f7a4_39 (by decide) ?_
    refine r_iload_n g dJ6_stringSize_0f7a4_16 rfl ?_
    refine r_bipush g 10 dJ6_stringSize_0f7a4_17 (by decide) ?_
    refine r_icmp_ge g 42 dJ6_stringSize_0f7a4_19 (by decide) (fun c => absurd c (by decide)) (fun _ => ?_)
    refine r_iload_n g dJ6_stringSize_0f7a4_22 rfl ?_
    refine r_iload_n g dJ6_stringSize_0f7a4_23 rfl ?_
    refine r_icmp_le g 31 dJ6_stringSize_0f7a4_24 (by decide) (fun c => absurd c (((neg_ok x hx).2.2.1 h100).1)) (fun _ => ?_)
    refine r_iload_n g dJ6_stringSize_0f7a4_27 rfl ?_
    refine r_iload_n g dJ6_stringSize_0f7a4_28 rfl ?_
    refine r_iadd g dJ6_stringSize_0f7a4_29 ?_
    refine r_nmV (.int (nI 2)) (by decide) ?_
    exact hr.2.1 _ rfl _ _ _ _ _ _ dJ6_stringSize_0f7a4_30 rfl (Nat.le_refl _) (Nat.le_refl _) ⟨by unfold dg; rw [if_neg (by omega), if_pos h100]; rfl, rfl⟩)
theorem c_ss3 {x : Nat} (hx : x ≤ 100) (h10 : 10 ≤ x) (h100 : 100 ≤ x) : xC d yJ6_stringSize_0f7a4 cJ6_stringSize_0f7a4 4 (some .int) 0 0 [.int (nI x)] μ ro (fun r μ' => r = some (.int (nI (dg x).length)) ∧ μ' = μ) :=
  xC_intro (own := RJ6) (lv := [(0, .int (nI x))]) (by decide) rfl (Nat.le_of_ble_eq_true rfl) rfl (fun J g hr => by
    refine r_iconst g 1 dJ6_stringSize_0f7a4_0 (by decide) ?_
    refine r_istore_n g [(1, .int 1), (0, .int (nI x))] dJ6_stringSize_0f7a4_1 (by decide) rfl ?_
    refine r_iload_n g dJ6_stringSize_0f7a4_2 rfl ?_
    refine r_if_lt g 11 dJ6_stringSize_0f7a4_3 (by decide) (fun c => absurd c ((neg_ok x hx).2.2.2.2.2.2.2.2.1)) (fun _ => ?_)
    refine r_iconst g 0 dJ6_stringSize_0f7a4_6 (by decide) ?_
    refine r_istore_n g [(1, .int 0), (0, .int (nI x))] dJ6_stringSize_0f7a4_7 (by decide) rfl ?_
    refine r_iload_n g dJ6_stringSize_0f7a4_8 rfl ?_
    refine r_ineg g dJ6_stringSize_0f7a4_9 ?_
    refine r_nmV (.int (-(nI x))) (rfl) ?_
    refine r_istore_n g [(0, .int (-(nI x))), (1, .int 0)] dJ6_stringSize_0f7a4_10 (by decide) rfl ?_
    refine r_bipush g (-10) dJ6_stringSize_0f7a4_11 (by decide) ?_
    refine r_istore_n g [(2, .int (-10)), (0, .int (-(nI x))), (1, .int 0)] dJ6_stringSize_0f7a4_13 (by decide) rfl ?_
    refine r_iconst g 1 dJ6_stringSize_0f7a4_14 (by decide) ?_
    refine r_istore_n g [(3, .int 1), (2, .int (-10)), (0, .int (-(nI x))), (1, .int 0)] dJ6_stringSize_0f7a4_15 (by decide) rfl ?_
    refine r_iload_n g dJ6_stringSize_0f7a4_16 rfl ?_
    refine r_bipush g 10 dJ6_stringSize_0f7a4_17 (by decide) ?_
    refine r_icmp_ge g 42 dJ6_stringSize_0f7a4_19 (by decide) (fun c => absurd c (by decide)) (fun _ => ?_)
    refine r_iload_n g dJ6_stringSize_0f7a4_22 rfl ?_
    refine r_iload_n g dJ6_stringSize_0f7a4_23 rfl ?_
    refine r_icmp_le g 31 dJ6_stringSize_0f7a4_24 (by decide) (fun _ => ?_) (fun c => absurd ((neg_ok x hx).2.1 h10) c)
    refine r_bipush g 10 dJ6_stringSize_0f7a4_31 (by decide) ?_
    refine r_iload_n g dJ6_stringSize_0f7a4_33 rfl ?_
    refine r_imul g dJ6_stringSize_0f7a4_34 ?_
    refine r_nmV (.int (-100)) (by decide) ?_
    refine r_istore_n g [(2, .int (-100)), (3, .int 1), (0, .int (-(nI x))), (1, .int 0)] dJ6_stringSize_0f7a4_35 (by decide) rfl ?_
    refine r_iinc g 2 [(3, .int 2), (2, .int (-100)), (0, .int (-(nI x))), (1, .int 0)] dJ6_stringSize_0f7a4_36 rfl (by decide) (by decide) rfl ?_
    refine r_goto g 16 dJ6_stringSize_0f7a4_39 (by decide) ?_
    refine r_iload_n g dJ6_stringSize_0f7a4_16 rfl ?_
    refine r_bipush g 10 dJ6_stringSize_0f7a4_17 (by decide) ?_
    refine r_icmp_ge g 42 dJ6_stringSize_0f7a4_19 (by decide) (fun c => absurd c (by decide)) (fun _ => ?_)
    refine r_iload_n g dJ6_stringSize_0f7a4_22 rfl ?_
    refine r_iload_n g dJ6_stringSize_0f7a4_23 rfl ?_
    refine r_icmp_le g 31 dJ6_stringSize_0f7a4_24 (by decide) (fun _ => ?_) (fun c => absurd ((neg_ok x hx).2.2.2.1 h100) c)
    refine r_bipush g 10 dJ6_stringSize_0f7a4_31 (by decide) ?_
    refine r_iload_n g dJ6_stringSize_0f7a4_33 rfl ?_
    refine r_imul g dJ6_stringSize_0f7a4_34 ?_
    refine r_nmV (.int (-1000)) (by decide) ?_
    refine r_istore_n g [(2, .int (-1000)), (3, .int 2), (0, .int (-(nI x))), (1, .int 0)] dJ6_stringSize_0f7a4_35 (by decide) rfl ?_
    refine r_iinc g 3 [(3, .int 3), (2, .int (-1000)), (0, .int (-(nI x))), (1, .int 0)] dJ6_stringSize_0f7a4_36 rfl (by decide) (by decide) rfl ?_
    refine r_goto g 16 dJ6_stringSize_0f7a4_39 (by decide) ?_
    refine r_iload_n g dJ6_stringSize_0f7a4_16 rfl ?_
    refine r_bipush g 10 dJ6_stringSize_0f7a4_17 (by decide) ?_
    refine r_icmp_ge g 42 dJ6_stringSize_0f7a4_19 (by decide) (fun c => absurd c (by decide)) (fun _ => ?_)
    refine r_iload_n g dJ6_stringSize_0f7a4_22 rfl ?_
    refine r_iload_n g dJ6_stringSize_0f7a4_23 rfl ?_
    refine r_icmp_le g 31 dJ6_stringSize_0f7a4_24 (by decide) (fun c => absurd c ((neg_ok x hx).2.2.2.2.2.2.1)) (fun _ => ?_)
    refine r_iload_n g dJ6_stringSize_0f7a4_27 rfl ?_
    refine r_iload_n g dJ6_stringSize_0f7a4_28 rfl ?_
    refine r_iadd g dJ6_stringSize_0f7a4_29 ?_
    refine r_nmV (.int (nI 3)) (by decide) ?_
    exact hr.2.1 _ rfl _ _ _ _ _ _ dJ6_stringSize_0f7a4_30 rfl (Nat.le_refl _) (Nat.le_refl _) ⟨by unfold dg; rw [if_neg (by omega), if_neg (by omega)]; rfl, rfl⟩)
theorem c_ss {x : Nat} (hx : x ≤ 100) : xC d yJ6_stringSize_0f7a4 cJ6_stringSize_0f7a4 4 (some .int) 0 0 [.int (nI x)] μ ro (fun r μ' => r = some (.int (nI (dg x).length)) ∧ μ' = μ) := by
  by_cases h10 : x < 10
  · exact c_ss1 hx h10
  · by_cases h100 : x < 100
    · exact c_ss2 hx (by omega) h100
    · exact c_ss3 hx (by omega) (by omega)
theorem c_gc1 {x p : Nat} (hx : x ≤ 100) (h10 : x < 10) (hs : hS μ b = some (1, N)) (hN : N ≤ 400) (hp : p + 1 ≤ N) : xC d yJ6_getChars_ba4f3 cJ6_getChars_ba4f3 7 (some .int) 0 0 [.int (nI x), .int (nI (p + 1)), .ref b] μ ro (fun r μ' => r = some (.int (nI p)) ∧ gP b p (dg x) μ μ') :=
  xC_intro (own := RJ6) (lv := [(0, .int (nI x)), (1, .int (nI (p + 1))), (2, .ref b)]) (by decide) rfl (Nat.le_of_ble_eq_true rfl) rfl (fun J g hr => by
    refine r_iload_n g dJ6_getChars_ba4f3_0 rfl ?_
    refine r_istore g [(5, .int (nI (p + 1))), (0, .int (nI x)), (1, .int (nI (p + 1))), (2, .ref b)] dJ6_getChars_ba4f3_1 (by decide) rfl ?_
    refine r_iload_n g dJ6_getChars_ba4f3_3 rfl ?_
    refine r_if_ge g 11 dJ6_getChars_ba4f3_4 (by decide) (fun _ => ?_) (fun c => absurd ((neg_ok x hx).2.2.2.2.2.2.2.2.2) c)
    refine r_iconst g 0 dJ6_getChars_ba4f3_11 (by decide) ?_
    refine r_istore g [(6, .int 0), (5, .int (nI (p + 1))), (0, .int (nI x)), (1, .int (nI (p + 1))), (2, .ref b)] dJ6_getChars_ba4f3_12 (by decide) rfl ?_
    refine r_iload g dJ6_getChars_ba4f3_14 rfl ?_
    refine r_if_ne g 22 dJ6_getChars_ba4f3_16 (by decide) (fun c => absurd (rfl) c) (fun _ => ?_)
    refine r_iload_n g dJ6_getChars_ba4f3_19 rfl ?_
    refine r_ineg g dJ6_getChars_ba4f3_20 ?_
    refine r_nmV (.int (-(nI x))) (rfl) ?_
    refine r_istore_n g [(0, .int (-(nI x))), (6, .int 0), (5, .int (nI (p + 1))), (1, .int (nI (p + 1))), (2, .ref b)] dJ6_getChars_ba4f3_21 (by decide) rfl ?_
    refine r_iload_n g dJ6_getChars_ba4f3_22 rfl ?_
    refine r_bipush g (-100) dJ6_getChars_ba4f3_23 (by decide) ?_
    refine r_icmp_gt g 72 dJ6_getChars_ba4f3_25 (by decide) (fun _ => ?_) (fun c => absurd (((neg_ok x hx).2.2.1 (by omega)).2) c)
    refine r_aload_n g dJ6_getChars_ba4f3_72 rfl ?_
    refine r_iinc g (nI p) [(5, .int (nI p)), (0, .int (-(nI x))), (6, .int 0), (1, .int (nI (p + 1))), (2, .ref b)] dJ6_getChars_ba4f3_73 rfl (nI_dec _) (by decide) rfl ?_
    refine r_iload g dJ6_getChars_ba4f3_76 rfl ?_
    refine r_getsRO g (List.mem_of_getElem? (i := 3) rfl) zJ6_83 dJ6_getChars_ba4f3_78 ?_
    refine r_iload_n g dJ6_getChars_ba4f3_81 rfl ?_
    refine r_ineg g dJ6_getChars_ba4f3_82 ?_
    refine r_nmV (.int (nI x)) (by rw [← (neg_ok x hx).2.2.2.2.2.2.2.1]) ?_
    refine r_tabB g (List.mem_of_getElem? (i := 5) rfl) (vp_in_nI (n := x) (by omega) (by omega)) dJ6_getChars_ba4f3_83 ?_
    refine r_nmV (.int (nI (48 + x))) (by rw [nI_clamp (by omega)]; show Value.int (nI (48 + x)) = .int (Int32.ofNat (48 + x % 10)); rw [Nat.mod_eq_of_lt h10]; rfl) ?_
    refine r_bastore g (show hS μ b = _ from hs) (vp_in_nI (by omega) (by omega)) dJ6_getChars_ba4f3_84 ?_
    rw [nI_clamp (by omega), (chr_ok (48 + x) (by omega)).2.1]
    refine r_iload_n g dJ6_getChars_ba4f3_85 rfl ?_
    refine r_bipush g (-9) dJ6_getChars_ba4f3_86 (by decide) ?_
    refine r_icmp_ge g 104 dJ6_getChars_ba4f3_88 (by decide) (fun _ => ?_) (fun c => absurd ((neg_ok x hx).2.2.2.2.1 h10) c)
    refine r_iload g dJ6_getChars_ba4f3_104 rfl ?_
    refine r_if_eq g 118 dJ6_getChars_ba4f3_106 (by decide) (fun _ => ?_) (fun c => absurd (rfl) c)
    refine r_iload g dJ6_getChars_ba4f3_118 rfl ?_
    exact hr.2.1 _ rfl _ _ _ _ _ _ dJ6_getChars_ba4f3_120 rfl (Nat.le_refl _) (Nat.le_refl _) ⟨rfl, ⟨rfl, rfl, rfl⟩, fun c hc => by rw [hI_wI_n _ _ _ hc], fun j hj => by rw [hI_wI_s, upd_n _ (by omega)], (fun j c hj => by
      unfold dg at hj; rw [if_pos h10] at hj
      match j, hj with
      | 0, hj => cases hj; rw [hI_wI_s]; exact upd_s _ _ _
      | j + 1, hj => cases hj), fun j hj => by rw [hI_wI_s]; exact upd_fit (by omega) (hj)⟩)
theorem c_gc2 {x p : Nat} (hx : x ≤ 100) (h10 : 10 ≤ x) (h100 : x < 100) (hs : hS μ b = some (1, N)) (hN : N ≤ 400) (hp : p + 2 ≤ N) : xC d yJ6_getChars_ba4f3 cJ6_getChars_ba4f3 7 (some .int) 0 0 [.int (nI x), .int (nI (p + 2)), .ref b] μ ro (fun r μ' => r = some (.int (nI p)) ∧ gP b p (dg x) μ μ') :=
  xC_intro (own := RJ6) (lv := [(0, .int (nI x)), (1, .int (nI (p + 2))), (2, .ref b)]) (by decide) rfl (Nat.le_of_ble_eq_true rfl) rfl (fun J g hr => by
    refine r_iload_n g dJ6_getChars_ba4f3_0 rfl ?_
    refine r_istore g [(5, .int (nI (p + 2))), (0, .int (nI x)), (1, .int (nI (p + 2))), (2, .ref b)] dJ6_getChars_ba4f3_1 (by decide) rfl ?_
    refine r_iload_n g dJ6_getChars_ba4f3_3 rfl ?_
    refine r_if_ge g 11 dJ6_getChars_ba4f3_4 (by decide) (fun _ => ?_) (fun c => absurd ((neg_ok x hx).2.2.2.2.2.2.2.2.2) c)
    refine r_iconst g 0 dJ6_getChars_ba4f3_11 (by decide) ?_
    refine r_istore g [(6, .int 0), (5, .int (nI (p + 2))), (0, .int (nI x)), (1, .int (nI (p + 2))), (2, .ref b)] dJ6_getChars_ba4f3_12 (by decide) rfl ?_
    refine r_iload g dJ6_getChars_ba4f3_14 rfl ?_
    refine r_if_ne g 22 dJ6_getChars_ba4f3_16 (by decide) (fun c => absurd (rfl) c) (fun _ => ?_)
    refine r_iload_n g dJ6_getChars_ba4f3_19 rfl ?_
    refine r_ineg g dJ6_getChars_ba4f3_20 ?_
    refine r_nmV (.int (-(nI x))) (rfl) ?_
    refine r_istore_n g [(0, .int (-(nI x))), (6, .int 0), (5, .int (nI (p + 2))), (1, .int (nI (p + 2))), (2, .ref b)] dJ6_getChars_ba4f3_21 (by decide) rfl ?_
    refine r_iload_n g dJ6_getChars_ba4f3_22 rfl ?_
    refine r_bipush g (-100) dJ6_getChars_ba4f3_23 (by decide) ?_
    refine r_icmp_gt g 72 dJ6_getChars_ba4f3_25 (by decide) (fun _ => ?_) (fun c => absurd (((neg_ok x hx).2.2.1 (by omega)).2) c)
    refine r_aload_n g dJ6_getChars_ba4f3_72 rfl ?_
    refine r_iinc g (nI (p + 1)) [(5, .int (nI (p + 1))), (0, .int (-(nI x))), (6, .int 0), (1, .int (nI (p + 2))), (2, .ref b)] dJ6_getChars_ba4f3_73 rfl (nI_dec _) (by decide) rfl ?_
    refine r_iload g dJ6_getChars_ba4f3_76 rfl ?_
    refine r_getsRO g (List.mem_of_getElem? (i := 3) rfl) zJ6_83 dJ6_getChars_ba4f3_78 ?_
    refine r_iload_n g dJ6_getChars_ba4f3_81 rfl ?_
    refine r_ineg g dJ6_getChars_ba4f3_82 ?_
    refine r_nmV (.int (nI x)) (by rw [← (neg_ok x hx).2.2.2.2.2.2.2.1]) ?_
    refine r_tabB g (List.mem_of_getElem? (i := 5) rfl) (vp_in_nI (n := x) (by omega) (by omega)) dJ6_getChars_ba4f3_83 ?_
    refine r_nmV (.int (nI (48 + x % 10))) (by rw [nI_clamp (by omega)]; rfl) ?_
    refine r_bastore g (show hS μ b = _ from hs) (vp_in_nI (by omega) (by omega)) dJ6_getChars_ba4f3_84 ?_
    rw [nI_clamp (by omega), (chr_ok (48 + x % 10) (by omega)).2.1]
    refine r_iload_n g dJ6_getChars_ba4f3_85 rfl ?_
    refine r_bipush g (-9) dJ6_getChars_ba4f3_86 (by decide) ?_
    refine r_icmp_ge g 104 dJ6_getChars_ba4f3_88 (by decide) (fun c => absurd c ((neg_ok x hx).2.2.2.2.2.1 h10)) (fun _ => ?_)
    refine r_aload_n g dJ6_getChars_ba4f3_91 rfl ?_
    refine r_iinc g (nI p) [(5, .int (nI p)), (0, .int (-(nI x))), (6, .int 0), (1, .int (nI (p + 2))), (2, .ref b)] dJ6_getChars_ba4f3_92 rfl (nI_dec _) (by decide) rfl ?_
    refine r_iload g dJ6_getChars_ba4f3_95 rfl ?_
    refine r_getsRO g (List.mem_of_getElem? (i := 4) rfl) zJ6_87 dJ6_getChars_ba4f3_97 ?_
    refine r_iload_n g dJ6_getChars_ba4f3_100 rfl ?_
    refine r_ineg g dJ6_getChars_ba4f3_101 ?_
    refine r_nmV (.int (nI x)) (by rw [← (neg_ok x hx).2.2.2.2.2.2.2.1]) ?_
    refine r_tabB g (List.mem_of_getElem? (i := 6) rfl) (vp_in_nI (n := x) (by omega) (by omega)) dJ6_getChars_ba4f3_102 ?_
    refine r_nmV (.int (nI (48 + x / 10))) (by rw [nI_clamp (by omega)]; rfl) ?_
    refine r_bastore g (show hS (wI μ b (p + 1) (nI (48 + x % 10))) b = _ from hs) (vp_in_nI (by omega) (by omega)) dJ6_getChars_ba4f3_103 ?_
    rw [nI_clamp (by omega), (chr_ok (48 + x / 10) (by omega)).2.1]
    refine r_iload g dJ6_getChars_ba4f3_104 rfl ?_
    refine r_if_eq g 118 dJ6_getChars_ba4f3_106 (by decide) (fun _ => ?_) (fun c => absurd (rfl) c)
    refine r_iload g dJ6_getChars_ba4f3_118 rfl ?_
    exact hr.2.1 _ rfl _ _ _ _ _ _ dJ6_getChars_ba4f3_120 rfl (Nat.le_refl _) (Nat.le_refl _) ⟨rfl, ⟨rfl, rfl, rfl⟩, fun c hc => by rw [hI_wI_n _ _ _ hc, hI_wI_n _ _ _ hc], fun j hj => by rw [hI_wI_s, hI_wI_s, upd_n _ (by omega), upd_n _ (by omega)], (fun j c hj => by
      unfold dg at hj; rw [if_neg (by omega), if_pos h100] at hj
      match j, hj with
      | 0, hj => cases hj; rw [hI_wI_s, hI_wI_s]; exact upd_s _ _ _
      | 1, hj => cases hj; rw [hI_wI_s, hI_wI_s, upd_n _ (by omega)]; exact upd_s _ _ _
      | j + 2, hj => cases hj), fun j hj => by rw [hI_wI_s, hI_wI_s]; exact upd_fit (by omega) (upd_fit (by omega) (hj))⟩)
theorem c_gc3 {x p : Nat} (hx : x ≤ 100) (h10 : 10 ≤ x) (h100 : 100 ≤ x) (hs : hS μ b = some (1, N)) (hN : N ≤ 400) (hp : p + 3 ≤ N) : xC d yJ6_getChars_ba4f3 cJ6_getChars_ba4f3 7 (some .int) 0 0 [.int (nI x), .int (nI (p + 3)), .ref b] μ ro (fun r μ' => r = some (.int (nI p)) ∧ gP b p (dg x) μ μ') :=
  xC_intro (own := RJ6) (lv := [(0, .int (nI x)), (1, .int (nI (p + 3))), (2, .ref b)]) (by decide) rfl (Nat.le_of_ble_eq_true rfl) rfl (fun J g hr => by
    refine r_iload_n g dJ6_getChars_ba4f3_0 rfl ?_
    refine r_istore g [(5, .int (nI (p + 3))), (0, .int (nI x)), (1, .int (nI (p + 3))), (2, .ref b)] dJ6_getChars_ba4f3_1 (by decide) rfl ?_
    refine r_iload_n g dJ6_getChars_ba4f3_3 rfl ?_
    refine r_if_ge g 11 dJ6_getChars_ba4f3_4 (by decide) (fun _ => ?_) (fun c => absurd ((neg_ok x hx).2.2.2.2.2.2.2.2.2) c)
    refine r_iconst g 0 dJ6_getChars_ba4f3_11 (by decide) ?_
    refine r_istore g [(6, .int 0), (5, .int (nI (p + 3))), (0, .int (nI x)), (1, .int (nI (p + 3))), (2, .ref b)] dJ6_getChars_ba4f3_12 (by decide) rfl ?_
    refine r_iload g dJ6_getChars_ba4f3_14 rfl ?_
    refine r_if_ne g 22 dJ6_getChars_ba4f3_16 (by decide) (fun c => absurd (rfl) c) (fun _ => ?_)
    refine r_iload_n g dJ6_getChars_ba4f3_19 rfl ?_
    refine r_ineg g dJ6_getChars_ba4f3_20 ?_
    refine r_nmV (.int (-(nI x))) (rfl) ?_
    refine r_istore_n g [(0, .int (-(nI x))), (6, .int 0), (5, .int (nI (p + 3))), (1, .int (nI (p + 3))), (2, .ref b)] dJ6_getChars_ba4f3_21 (by decide) rfl ?_
    refine r_iload_n g dJ6_getChars_ba4f3_22 rfl ?_
    refine r_bipush g (-100) dJ6_getChars_ba4f3_23 (by decide) ?_
    refine r_icmp_gt g 72 dJ6_getChars_ba4f3_25 (by decide) (fun c => absurd c (by rw [show x = 100 by omega]; decide)) (fun _ => ?_)
    refine r_iload_n g dJ6_getChars_ba4f3_28 rfl ?_
    refine r_bipush g 100 dJ6_getChars_ba4f3_29 (by decide) ?_
    refine r_idiv g (by decide) dJ6_getChars_ba4f3_31 ?_
    refine r_nmV (.int (-1)) (by rw [show x = 100 by omega]; decide) ?_
    refine r_istore_n g [(3, .int (-1)), (0, .int (-(nI x))), (6, .int 0), (5, .int (nI (p + 3))), (1, .int (nI (p + 3))), (2, .ref b)] dJ6_getChars_ba4f3_32 (by decide) rfl ?_
    refine r_iload_n g dJ6_getChars_ba4f3_33 rfl ?_
    refine r_bipush g 100 dJ6_getChars_ba4f3_34 (by decide) ?_
    refine r_imul g dJ6_getChars_ba4f3_36 ?_
    refine r_nmV (.int (-100)) (by decide) ?_
    refine r_iload_n g dJ6_getChars_ba4f3_37 rfl ?_
    refine r_isub g dJ6_getChars_ba4f3_38 ?_
    refine r_nmV (.int 0) (by rw [show x = 100 by omega]; decide) ?_
    refine r_istore g [(4, .int 0), (3, .int (-1)), (0, .int (-(nI x))), (6, .int 0), (5, .int (nI (p + 3))), (1, .int (nI (p + 3))), (2, .ref b)] dJ6_getChars_ba4f3_39 (by decide) rfl ?_
    refine r_iload_n g dJ6_getChars_ba4f3_41 rfl ?_
    refine r_istore_n g [(0, .int (-1)), (4, .int 0), (3, .int (-1)), (6, .int 0), (5, .int (nI (p + 3))), (1, .int (nI (p + 3))), (2, .ref b)] dJ6_getChars_ba4f3_42 (by decide) rfl ?_
    refine r_aload_n g dJ6_getChars_ba4f3_43 rfl ?_
    refine r_iinc g (nI (p + 2)) [(5, .int (nI (p + 2))), (0, .int (-1)), (4, .int 0), (3, .int (-1)), (6, .int 0), (1, .int (nI (p + 3))), (2, .ref b)] dJ6_getChars_ba4f3_44 rfl (nI_dec _) (by decide) rfl ?_
    refine r_iload g dJ6_getChars_ba4f3_47 rfl ?_
    refine r_getsRO g (List.mem_of_getElem? (i := 3) rfl) zJ6_83 dJ6_getChars_ba4f3_49 ?_
    refine r_iload g dJ6_getChars_ba4f3_52 rfl ?_
    refine r_tabB g (List.mem_of_getElem? (i := 5) rfl) (vp_in_nI (n := 0) (by omega) (by omega)) dJ6_getChars_ba4f3_54 ?_
    refine r_nmV (.int (nI 48)) (by rfl) ?_
    refine r_bastore g (show hS μ b = _ from hs) (vp_in_nI (by omega) (by omega)) dJ6_getChars_ba4f3_55 ?_
    rw [nI_clamp (by omega), (chr_ok (48) (by omega)).2.1]
    refine r_aload_n g dJ6_getChars_ba4f3_56 rfl ?_
    refine r_iinc g (nI (p + 1)) [(5, .int (nI (p + 1))), (0, .int (-1)), (4, .int 0), (3, .int (-1)), (6, .int 0), (1, .int (nI (p + 3))), (2, .ref b)] dJ6_getChars_ba4f3_57 rfl (nI_dec _) (by decide) rfl ?_
    refine r_iload g dJ6_getChars_ba4f3_60 rfl ?_
    refine r_getsRO g (List.mem_of_getElem? (i := 4) rfl) zJ6_87 dJ6_getChars_ba4f3_62 ?_
    refine r_iload g dJ6_getChars_ba4f3_65 rfl ?_
    refine r_tabB g (List.mem_of_getElem? (i := 6) rfl) (vp_in_nI (n := 0) (by omega) (by omega)) dJ6_getChars_ba4f3_67 ?_
    refine r_nmV (.int (nI 48)) (by rfl) ?_
    refine r_bastore g (show hS (wI μ b (p + 2) (nI (48))) b = _ from hs) (vp_in_nI (by omega) (by omega)) dJ6_getChars_ba4f3_68 ?_
    rw [nI_clamp (by omega), (chr_ok (48) (by omega)).2.1]
    refine r_goto g 22 dJ6_getChars_ba4f3_69 (by decide) ?_
    refine r_iload_n g dJ6_getChars_ba4f3_22 rfl ?_
    refine r_bipush g (-100) dJ6_getChars_ba4f3_23 (by decide) ?_
    refine r_icmp_gt g 72 dJ6_getChars_ba4f3_25 (by decide) (fun _ => ?_) (fun c => absurd (by decide) c)
    refine r_aload_n g dJ6_getChars_ba4f3_72 rfl ?_
    refine r_iinc g (nI p) [(5, .int (nI p)), (0, .int (-1)), (4, .int 0), (3, .int (-1)), (6, .int 0), (1, .int (nI (p + 3))), (2, .ref b)] dJ6_getChars_ba4f3_73 rfl (nI_dec _) (by decide) rfl ?_
    refine r_iload g dJ6_getChars_ba4f3_76 rfl ?_
    refine r_getsRO g (List.mem_of_getElem? (i := 3) rfl) zJ6_83 dJ6_getChars_ba4f3_78 ?_
    refine r_iload_n g dJ6_getChars_ba4f3_81 rfl ?_
    refine r_ineg g dJ6_getChars_ba4f3_82 ?_
    refine r_nmV (.int (nI 1)) (by decide) ?_
    refine r_tabB g (List.mem_of_getElem? (i := 5) rfl) (vp_in_nI (n := 1) (by omega) (by omega)) dJ6_getChars_ba4f3_83 ?_
    refine r_nmV (.int (nI 49)) (by rfl) ?_
    refine r_bastore g (show hS (wI (wI μ b (p + 2) (nI (48))) b (p + 1) (nI (48))) b = _ from hs) (vp_in_nI (by omega) (by omega)) dJ6_getChars_ba4f3_84 ?_
    rw [nI_clamp (by omega), (chr_ok (49) (by omega)).2.1]
    refine r_iload_n g dJ6_getChars_ba4f3_85 rfl ?_
    refine r_bipush g (-9) dJ6_getChars_ba4f3_86 (by decide) ?_
    refine r_icmp_ge g 104 dJ6_getChars_ba4f3_88 (by decide) (fun _ => ?_) (fun c => absurd (by decide) c)
    refine r_iload g dJ6_getChars_ba4f3_104 rfl ?_
    refine r_if_eq g 118 dJ6_getChars_ba4f3_106 (by decide) (fun _ => ?_) (fun c => absurd (rfl) c)
    refine r_iload g dJ6_getChars_ba4f3_118 rfl ?_
    exact hr.2.1 _ rfl _ _ _ _ _ _ dJ6_getChars_ba4f3_120 rfl (Nat.le_refl _) (Nat.le_refl _) ⟨rfl, ⟨rfl, rfl, rfl⟩, fun c hc => by rw [hI_wI_n _ _ _ hc, hI_wI_n _ _ _ hc, hI_wI_n _ _ _ hc], fun j hj => by rw [hI_wI_s, hI_wI_s, hI_wI_s, upd_n _ (by omega), upd_n _ (by omega), upd_n _ (by omega)], (fun j c hj => by
      unfold dg at hj; rw [if_neg (by omega), if_neg (by omega)] at hj
      match j, hj with
      | 0, hj => cases hj; rw [hI_wI_s, hI_wI_s, hI_wI_s]; exact upd_s _ _ _
      | 1, hj => cases hj; rw [hI_wI_s, hI_wI_s, hI_wI_s, upd_n _ (by omega)]; exact upd_s _ _ _
      | 2, hj => cases hj; rw [hI_wI_s, hI_wI_s, hI_wI_s, upd_n _ (by omega), upd_n _ (by omega)]; exact upd_s _ _ _
      | j + 3, hj => cases hj), fun j hj => by rw [hI_wI_s, hI_wI_s, hI_wI_s]; exact upd_fit (by omega) (upd_fit (by omega) (upd_fit (by omega) (hj)))⟩)
theorem c_gch {x p : Nat} (hx : x ≤ 100) (hs : hS μ b = some (1, N)) (hN : N ≤ 400) (hp : p + (dg x).length ≤ N) : xC d yJ6_getChars_ba4f3 cJ6_getChars_ba4f3 7 (some .int) 0 0 [.int (nI x), .int (nI (p + (dg x).length)), .ref b] μ ro (fun r μ' => r = some (.int (nI p)) ∧ gP b p (dg x) μ μ') := by
  by_cases h10 : x < 10
  · have e : (dg x).length = 1 := by unfold dg; rw [if_pos h10]; rfl
    rw [e] at hp ⊢
    exact c_gc1 hx h10 hs hN hp
  · by_cases h100 : x < 100
    · have e : (dg x).length = 2 := by unfold dg; rw [if_neg h10, if_pos h100]; rfl
      rw [e] at hp ⊢
      exact c_gc2 hx (by omega) h100 hs hN hp
    · have e : (dg x).length = 3 := by unfold dg; rw [if_neg h10, if_neg h100]; rfl
      rw [e] at hp ⊢
      exact c_gc3 hx (by omega) (by omega) hs hN hp
theorem dg_len : ∀ x, x ≤ 100 → 1 ≤ (dg x).length ∧ (dg x).length ≤ 3 := by decide +kernel
theorem c_apI {x : Nat} (hd : 4 ≤ d) (h : sb μ a b N l) (hl : l.length + 3 ≤ 190) (hx : x ≤ 100) : xC d yJ5_append_c97b9 cJ5_append_c97b9 4 (some (.object "java/lang/AbstractStringBuilder")) (gC N (l.length + (dg x).length)) (gS N (l.length + (dg x).length)) [.ref a, .int (nI x)] μ ro (fun r μ' => r = some (.ref a) ∧ ∃ b', sb μ' a b' (gN N (l.length + (dg x).length)) (l ++ dg x) ∧ sF a b b' μ μ') :=
  xC_intro (own := RJ5) (lv := [(0, .ref a), (1, .int (nI x))]) (by decide) rfl (Nat.le_of_ble_eq_true rfl) rfl (fun J g hr => by
    refine r_aload_n g dJ5_append_c97b9_0 rfl ?_
    refine r_getI g fJ5_79 rfl (h.1.1) dJ5_append_c97b9_1 ?_
    refine r_nmV (.int (nI l.length)) (by rw [h.1.2.2.2]) ?_
    refine r_istore_n g [(2, .int (nI l.length)), (0, .ref a), (1, .int (nI x))] dJ5_append_c97b9_4 (by decide) rfl ?_
    refine r_iload_n g dJ5_append_c97b9_5 rfl ?_
    refine r_iload_n g dJ5_append_c97b9_6 rfl ?_
    have hdl := dg_len x hx
    refine r_callS (d' := d - 1) (st := [.int (nI l.length)]) (As := [.int (nI x)]) g sJ5_245 iJ6_stringSize_0f7a4 rfl (Nat.le_of_ble_eq_true rfl) dJ5_append_c97b9_7 (by omega) (by omega) (by omega) (c_ss hx) (fun r μ0 hz => ?_)
    obtain ⟨rfl, rfl⟩ := hz
    refine r_iadd g dJ5_append_c97b9_10 ?_
    refine r_nmV (.int (nI (l.length + (dg x).length))) (by rw [nIadd]) ?_
    refine r_istore_n g [(3, .int (nI (l.length + (dg x).length))), (2, .int (nI l.length)), (0, .ref a), (1, .int (nI x))] dJ5_append_c97b9_11 (by decide) rfl ?_
    refine r_aload_n g dJ5_append_c97b9_12 rfl ?_
    refine r_iload_n g dJ5_append_c97b9_13 rfl ?_
    refine r_callUO (d' := d - 1) (st := []) (As := [.int (nI (l.length + (dg x).length))]) g uJ5_100 rfl (h.1.1) rfl (Nat.le_of_ble_eq_true rfl) dJ5_append_c97b9_14 (by omega) (by omega) (by omega) (c_ens (by omega) h (by omega)) (fun r μ1 hz => ?_)
    obtain ⟨rfl, b1, h1, hF⟩ := hz
    have hle := (gN_ge (N := N) (q := l.length + (dg x).length)).1
    refine r_aload_n g dJ5_append_c97b9_17 rfl ?_
    refine r_callUO (d' := d - 1) (st := []) (As := []) g uJ5_83 rfl (h1.1.1) rfl (Nat.le_of_ble_eq_true rfl) dJ5_append_c97b9_18 (by omega) (by omega) (by omega) (c_isL h1) (fun r μ2 hz => ?_)
    obtain ⟨rfl, rfl⟩ := hz
    refine r_if_eq g 37 dJ5_append_c97b9_21 (by decide) (fun c => absurd c (by decide)) (fun _ => ?_)
    refine r_iload_n g dJ5_append_c97b9_24 rfl ?_
    refine r_iload_n g dJ5_append_c97b9_25 rfl ?_
    refine r_aload_n g dJ5_append_c97b9_26 rfl ?_
    refine r_getR g fJ5_15 rfl (h1.1.1) (h1.1.2.1) dJ5_append_c97b9_27 ?_
    have hN1 := h1.2.1.2.2.2
    refine r_callS (d' := d - 1) (st := []) (As := [.int (nI x), .int (nI (l.length + (dg x).length)), .ref b1]) g sJ5_248 iJ6_getChars_ba4f3 rfl (Nat.le_of_ble_eq_true rfl) dJ5_append_c97b9_30 (by omega) (by omega) (by omega) (c_gch hx h1.2.1.1 hN1 hle) (fun r μ' hz => ?_)
    obtain ⟨rfl, p1, p2, p3, p4, p5⟩ := hz
    refine r_pop g dJ5_append_c97b9_33 rfl ?_
    refine r_goto g 48 dJ5_append_c97b9_34 (by decide) ?_
    refine r_aload_n g dJ5_append_c97b9_48 rfl ?_
    refine r_iload_n g dJ5_append_c97b9_49 rfl ?_
    refine r_putI g fJ5_79 rfl (show hS μ' a = some (4, 4) by rw [p1.2.2]; exact h1.1.1) rfl rfl dJ5_append_c97b9_50 ?_
    refine r_aload_n g dJ5_append_c97b9_53 rfl ?_
    have hz := h1.app (w := dg x) (μ' := wI μ' a 3 (nI (l.length + (dg x).length))) hle (dg_ok x hx) ⟨p1.1, p1.2.1, p1.2.2⟩ (fun c hc hc2 => by rw [hI_wI_n _ _ _ hc, p2 c hc2]) ⟨by rw [hI_wI_s, upd_n _ (by decide), p2 a h1.ne.symm]; exact h1.1.2.2.1, by rw [hI_wI_s, upd_s]⟩ (fun j hj => by rw [hI_wI_n _ _ _ h1.ne, p3 j hj]) (fun j c hj => by rw [hI_wI_n _ _ _ h1.ne]; exact p4 j c hj) (fun j => by rw [hI_wI_n _ _ _ h1.ne]; exact p5 j (h1.2.2.1 j))
    exact hr.2.2.2 _ rfl (Or.inl ⟨_, rfl⟩) _ _ _ _ _ _ dJ5_append_c97b9_54 (Or.inr ⟨_, rfl⟩) (by omega) (by omega) ⟨rfl, b1, hz.1, hF.tt h.2.1.1 hz.2⟩)
theorem c_len5 (h : sb μ a b N l) : xC d yJ5_length_8abf5 cJ5_length_8abf5 1 (some .int) 0 0 [.ref a] μ ro (fun r μ' => r = some (.int (nI l.length)) ∧ μ' = μ) :=
  xC_intro (own := RJ5) (lv := [(0, .ref a)]) (by decide) rfl (Nat.le_of_ble_eq_true rfl) rfl (fun J g hr => by
    refine r_aload_n g dJ5_length_8abf5_0 rfl ?_
    refine r_getI g fJ5_79 rfl (h.1.1) dJ5_length_8abf5_1 ?_
    refine r_nmV (.int (nI l.length)) (by rw [h.1.2.2.2]) ?_
    exact hr.2.1 _ rfl _ _ _ _ _ _ dJ5_length_8abf5_4 rfl (Nat.le_refl _) (Nat.le_refl _) ⟨rfl, rfl⟩)
theorem c_chr5 {i x : Nat} (hd : 2 ≤ d) (h : sb μ a b N l) (hi : l[i]? = some x) : xC d yJ5_charAt_5068e cJ5_charAt_5068e 5 (some .char) 0 0 [.ref a, .int (nI i)] μ ro (fun r μ' => r = some (.int (nI x)) ∧ μ' = μ) :=
  xC_intro (own := RJ5) (lv := [(0, .ref a), (1, .int (nI i))]) (by decide) rfl (Nat.le_of_ble_eq_true rfl) rfl (fun J g hr => by
    refine r_aload_n g dJ5_charAt_5068e_0 rfl ?_
    refine r_getI g fJ5_22 rfl (h.1.1) dJ5_charAt_5068e_1 ?_
    refine r_nmV (.int 0) (by rw [h.1.2.2.1]) ?_
    refine r_istore_n g [(2, .int 0), (0, .ref a), (1, .int (nI i))] dJ5_charAt_5068e_4 (by decide) rfl ?_
    refine r_aload_n g dJ5_charAt_5068e_5 rfl ?_
    refine r_getR g fJ5_15 rfl (h.1.1) (h.1.2.1) dJ5_charAt_5068e_6 ?_
    refine r_astore_n g [(3, .ref b), (2, .int 0), (0, .ref a), (1, .int (nI i))] dJ5_charAt_5068e_9 (by decide) rfl ?_
    refine r_aload_n g dJ5_charAt_5068e_10 rfl ?_
    refine r_getI g fJ5_79 rfl (h.1.1) dJ5_charAt_5068e_11 ?_
    refine r_nmV (.int (nI l.length)) (by rw [h.1.2.2.2]) ?_
    refine r_aload_n g dJ5_charAt_5068e_14 rfl ?_
    have hil : i < l.length := (List.getElem?_eq_some_iff.mp hi).1
    have hN4 := h.2.1.2.2.2
    have hlN := h.2.1.2.1
    refine r_alenB g h.2.1.1 dJ5_charAt_5068e_15 ?_
    refine r_nmV (.int (nI N)) rfl ?_
    refine r_iload_n g dJ5_charAt_5068e_16 rfl ?_
    refine r_ishr g dJ5_charAt_5068e_17 ?_
    refine r_nmV (.int (nI N)) (by rw [shr00]) ?_
    refine r_mmin g tJ5_138 (by omega) (by omega) (by omega) (Nat.le_of_ble_eq_true rfl) dJ5_charAt_5068e_18 ?_
    refine r_nmV (.int (nI l.length)) (by have := nI_min (a := l.length) (b := N) (by omega) (by omega); rw [Nat.min_eq_left (by omega)] at this; exact congrArg _ this) ?_
    refine r_istore g [(4, .int (nI l.length)), (3, .ref b), (2, .int 0), (0, .ref a), (1, .int (nI i))] dJ5_charAt_5068e_21 (by decide) rfl ?_
    refine r_iload_n g dJ5_charAt_5068e_23 rfl ?_
    refine r_iload g dJ5_charAt_5068e_24 rfl ?_
    refine r_callS (d' := d - 1) (st := []) (As := [.int (nI i), .int (nI l.length)]) g sJ5_144 iJ0_checkIndex_df160 rfl (Nat.le_of_ble_eq_true rfl) dJ5_charAt_5068e_26 (by omega) (by omega) (by omega) (c_strIdx (by omega) hil (by omega)) (fun r μ' hz => ?_)
    obtain ⟨rfl, rfl⟩ := hz
    refine r_iload_n g dJ5_charAt_5068e_29 rfl ?_
    refine r_if_ne g 42 dJ5_charAt_5068e_30 (by decide) (fun c => absurd (rfl) c) (fun _ => ?_)
    refine r_aload_n g dJ5_charAt_5068e_33 rfl ?_
    refine r_iload_n g dJ5_charAt_5068e_34 rfl ?_
    refine r_baload g h.2.1.1 (vp_in_nI (by omega) (by omega)) dJ5_charAt_5068e_35 ?_
    refine r_nmV (.int (nI x)) (by rw [nI_clamp (by omega), (h.2.2.2 i x hi).2]) ?_
    refine r_sipush g 255 dJ5_charAt_5068e_36 (by decide) ?_
    refine r_iand g dJ5_charAt_5068e_39 ?_
    refine r_nmV (.int (nI x &&& 255)) (rfl) ?_
    refine r_i2c g dJ5_charAt_5068e_40 ?_
    refine r_nmV (.int (nI x)) (by rw [(chr_ok x (h.2.2.2 i x hi).1).2.2.2.1]) ?_
    exact hr.2.1 _ rfl _ _ _ _ _ _ dJ5_charAt_5068e_41 (chr_ok x (h.2.2.2 i x hi).1).2.2.2.2 (Nat.le_refl _) (Nat.le_refl _) ⟨rfl, rfl⟩)
theorem c_set0 (hd : 1 ≤ d) (h : sb μ a b N l) (hl : l.length = 0) : xC d yJ5_setLength_d00df cJ5_setLength_d00df 2 none 0 0 [.ref a, .int 0] μ ro (fun r μ' => r = none ∧ sb μ' a b N [] ∧ sF a b b μ μ') :=
  xC_intro (own := RJ5) (lv := [(0, .ref a), (1, .int 0)]) (by decide) rfl (Nat.le_of_ble_eq_true rfl) rfl (fun J g hr => by
    refine r_iload_n g dJ5_setLength_d00df_0 rfl ?_
    refine r_if_ge g 13 dJ5_setLength_d00df_1 (by decide) (fun _ => ?_) (fun c => absurd (by decide) c)
    refine r_aload_n g dJ5_setLength_d00df_13 rfl ?_
    refine r_iload_n g dJ5_setLength_d00df_14 rfl ?_
    refine r_callUO (d' := d - 1) (st := []) (As := [.int (nI 0)]) g uJ5_100 rfl (h.1.1) rfl (Nat.le_of_ble_eq_true rfl) dJ5_setLength_d00df_15 (by omega) (by omega) (by omega) (c_ens0 h (Nat.zero_le _)) (fun r μ' hz => ?_)
    obtain ⟨rfl, rfl⟩ := hz
    refine r_aload_n g dJ5_setLength_d00df_18 rfl ?_
    refine r_getI g fJ5_79 rfl (h.1.1) dJ5_setLength_d00df_19 ?_
    refine r_nmV (.int (nI l.length)) (by rw [h.1.2.2.2]) ?_
    refine r_iload_n g dJ5_setLength_d00df_22 rfl ?_
    refine r_icmp_ge g 63 dJ5_setLength_d00df_23 (by decide) (fun _ => ?_) (fun c => absurd (nI_pos' (by have := h.2.1; omega)) c)
    refine r_aload_n g dJ5_setLength_d00df_63 rfl ?_
    refine r_getI g fJ5_79 rfl (h.1.1) dJ5_setLength_d00df_64 ?_
    refine r_nmV (.int (nI l.length)) (by rw [h.1.2.2.2]) ?_
    refine r_iload_n g dJ5_setLength_d00df_67 rfl ?_
    refine r_icmp_le g 76 dJ5_setLength_d00df_68 (by decide) (fun _ => ?_) (fun c => absurd (by rw [hl]; decide) c)
    refine r_aload_n g dJ5_setLength_d00df_76 rfl ?_
    refine r_iload_n g dJ5_setLength_d00df_77 rfl ?_
    refine r_putI g fJ5_79 rfl h.1.1 rfl rfl dJ5_setLength_d00df_78 ?_
    exact hr.1 rfl _ _ _ _ _ dJ5_setLength_d00df_81 (Nat.le_refl _) (Nat.le_refl _) ⟨rfl, ⟨⟨h.1.1, h.1.2.1, by rw [hI_wI_s, upd_n _ (by decide)]; exact h.1.2.2.1, by rw [hI_wI_s, upd_s]; rfl⟩, ⟨h.2.1.1, Nat.zero_le _, h.2.1.2.2.1, h.2.1.2.2.2⟩, fun j => by rw [hI_wI_n _ _ _ h.ne]; exact h.2.2.1 j, fun j c hj => by cases hj⟩, Or.inl rfl, fun c x hx => hx, fun c x hc hc2 hx => ⟨hI_wI_n _ _ _ hc, rfl, rfl⟩⟩)
theorem c_set1 (hd : 1 ≤ d) (h : sb μ a b N l) (hl : 0 < l.length) : xC d yJ5_setLength_d00df cJ5_setLength_d00df 2 none 0 0 [.ref a, .int 0] μ ro (fun r μ' => r = none ∧ sb μ' a b N [] ∧ sF a b b μ μ') :=
  xC_intro (own := RJ5) (lv := [(0, .ref a), (1, .int 0)]) (by decide) rfl (Nat.le_of_ble_eq_true rfl) rfl (fun J g hr => by
    refine r_iload_n g dJ5_setLength_d00df_0 rfl ?_
    refine r_if_ge g 13 dJ5_setLength_d00df_1 (by decide) (fun _ => ?_) (fun c => absurd (by decide) c)
    refine r_aload_n g dJ5_setLength_d00df_13 rfl ?_
    refine r_iload_n g dJ5_setLength_d00df_14 rfl ?_
    refine r_callUO (d' := d - 1) (st := []) (As := [.int (nI 0)]) g uJ5_100 rfl (h.1.1) rfl (Nat.le_of_ble_eq_true rfl) dJ5_setLength_d00df_15 (by omega) (by omega) (by omega) (c_ens0 h (Nat.zero_le _)) (fun r μ' hz => ?_)
    obtain ⟨rfl, rfl⟩ := hz
    refine r_aload_n g dJ5_setLength_d00df_18 rfl ?_
    refine r_getI g fJ5_79 rfl (h.1.1) dJ5_setLength_d00df_19 ?_
    refine r_nmV (.int (nI l.length)) (by rw [h.1.2.2.2]) ?_
    refine r_iload_n g dJ5_setLength_d00df_22 rfl ?_
    refine r_icmp_ge g 63 dJ5_setLength_d00df_23 (by decide) (fun _ => ?_) (fun c => absurd (nI_pos' (by have := h.2.1; omega)) c)
    refine r_aload_n g dJ5_setLength_d00df_63 rfl ?_
    refine r_getI g fJ5_79 rfl (h.1.1) dJ5_setLength_d00df_64 ?_
    refine r_nmV (.int (nI l.length)) (by rw [h.1.2.2.2]) ?_
    refine r_iload_n g dJ5_setLength_d00df_67 rfl ?_
    refine r_icmp_le g 76 dJ5_setLength_d00df_68 (by decide) (fun c => absurd c (nI_nle (by omega) (by have := h.2.1; omega))) (fun _ => ?_)
    refine r_aload_n g dJ5_setLength_d00df_71 rfl ?_
    refine r_iconst g 1 dJ5_setLength_d00df_72 (by decide) ?_
    refine r_putI g fJ5_73 rfl h.1.1 rfl rfl dJ5_setLength_d00df_73 ?_
    refine r_aload_n g dJ5_setLength_d00df_76 rfl ?_
    refine r_iload_n g dJ5_setLength_d00df_77 rfl ?_
    refine r_putI g fJ5_79 rfl h.1.1 rfl rfl dJ5_setLength_d00df_78 ?_
    exact hr.1 rfl _ _ _ _ _ dJ5_setLength_d00df_81 (Nat.le_refl _) (Nat.le_refl _) ⟨rfl, ⟨⟨h.1.1, h.1.2.1, by rw [hI_wI_s, upd_n _ (by decide), hI_wI_s, upd_n _ (by decide)]; exact h.1.2.2.1, by rw [hI_wI_s, upd_s]; rfl⟩, ⟨h.2.1.1, Nat.zero_le _, h.2.1.2.2.1, h.2.1.2.2.2⟩, fun j => by rw [hI_wI_n _ _ _ h.ne, hI_wI_n _ _ _ h.ne]; exact h.2.2.1 j, fun j c hj => by cases hj⟩, Or.inl rfl, fun c x hx => hx, fun c x hc hc2 hx => ⟨by rw [hI_wI_n _ _ _ hc, hI_wI_n _ _ _ hc], rfl, rfl⟩⟩)
theorem c_set (hd : 1 ≤ d) (h : sb μ a b N l) : xC d yJ5_setLength_d00df cJ5_setLength_d00df 2 none 0 0 [.ref a, .int 0] μ ro (fun r μ' => r = none ∧ sb μ' a b N [] ∧ sF a b b μ μ') := by
  by_cases hl : l.length = 0
  · exact c_set0 hd h hl
  · exact c_set1 hd h (by omega)
theorem c_apS4 (hd : 5 ≤ d) (h : sb μ a b N l) (hl : l.length + 2 ≤ 190) : xC d yJ4_append_15ec4 cJ4_append_15ec4 2 (some (.object "java/lang/StringBuilder")) (gC N (l.length + 2)) (gS N (l.length + 2)) [.ref a, .ref (ro 7)] μ ro (fun r μ' => r = some (.ref a) ∧ ∃ b', sb μ' a b' (gN N (l.length + 2)) (l ++ [32, 62]) ∧ sF a b b' μ μ') :=
  xC_intro (own := RJ4) (lv := [(0, .ref a), (1, .ref (ro 7))]) (by decide) rfl (Nat.le_of_ble_eq_true rfl) rfl (fun J g hr => by
    refine r_aload_n g dJ4_append_15ec4_0 rfl ?_
    refine r_aload_n g dJ4_append_15ec4_1 rfl ?_
    refine r_callSU (d' := d - 1) (st := []) (As := [.ref (ro 7)]) g vJ4_29 (show vwCl[0]? = some ("java/lang/StringBuilder", TJ4, 4) from rfl) h.1.1 rfl (Nat.le_of_ble_eq_true rfl) dJ4_append_15ec4_2 (by omega) (by omega) (by omega) (c_apS (by omega) h hl) (fun r μ' hz => ?_)
    obtain ⟨rfl, hz⟩ := hz
    refine r_pop g dJ4_append_15ec4_5 rfl ?_
    refine r_aload_n g dJ4_append_15ec4_6 rfl ?_
    exact hr.2.2.2 _ rfl (Or.inl ⟨_, rfl⟩) _ _ _ _ _ _ dJ4_append_15ec4_7 (Or.inr ⟨_, rfl⟩) (by omega) (by omega) ⟨rfl, hz⟩)
theorem c_apC4 {x : Nat} (hd : 5 ≤ d) (h : sb μ a b N l) (hl : l.length + 1 ≤ 190) (hx : x < 128) : xC d yJ4_append_cf468 cJ4_append_cf468 2 (some (.object "java/lang/StringBuilder")) (gC N (l.length + 1)) (gS N (l.length + 1)) [.ref a, .int (nI x)] μ ro (fun r μ' => r = some (.ref a) ∧ ∃ b', sb μ' a b' (gN N (l.length + 1)) (l ++ [x]) ∧ sF a b b' μ μ') :=
  xC_intro (own := RJ4) (lv := [(0, .ref a), (1, .int (nI x))]) (by decide) rfl (Nat.le_of_ble_eq_true rfl) rfl (fun J g hr => by
    refine r_aload_n g dJ4_append_cf468_0 rfl ?_
    refine r_iload_n g dJ4_append_cf468_1 rfl ?_
    refine r_callSU (d' := d - 1) (st := []) (As := [.int (nI x)]) g vJ4_50 (show vwCl[0]? = some ("java/lang/StringBuilder", TJ4, 4) from rfl) h.1.1 rfl (Nat.le_of_ble_eq_true rfl) dJ4_append_cf468_2 (by omega) (by omega) (by omega) (c_apC (by omega) h hl hx) (fun r μ' hz => ?_)
    obtain ⟨rfl, hz⟩ := hz
    refine r_pop g dJ4_append_cf468_5 rfl ?_
    refine r_aload_n g dJ4_append_cf468_6 rfl ?_
    exact hr.2.2.2 _ rfl (Or.inl ⟨_, rfl⟩) _ _ _ _ _ _ dJ4_append_cf468_7 (Or.inr ⟨_, rfl⟩) (by omega) (by omega) ⟨rfl, hz⟩)
theorem c_apI4 {x : Nat} (hd : 5 ≤ d) (h : sb μ a b N l) (hl : l.length + 3 ≤ 190) (hx : x ≤ 100) : xC d yJ4_append_bf812 cJ4_append_bf812 2 (some (.object "java/lang/StringBuilder")) (gC N (l.length + (dg x).length)) (gS N (l.length + (dg x).length)) [.ref a, .int (nI x)] μ ro (fun r μ' => r = some (.ref a) ∧ ∃ b', sb μ' a b' (gN N (l.length + (dg x).length)) (l ++ dg x) ∧ sF a b b' μ μ') :=
  xC_intro (own := RJ4) (lv := [(0, .ref a), (1, .int (nI x))]) (by decide) rfl (Nat.le_of_ble_eq_true rfl) rfl (fun J g hr => by
    refine r_aload_n g dJ4_append_bf812_0 rfl ?_
    refine r_iload_n g dJ4_append_bf812_1 rfl ?_
    refine r_callSU (d' := d - 1) (st := []) (As := [.int (nI x)]) g vJ4_53 (show vwCl[0]? = some ("java/lang/StringBuilder", TJ4, 4) from rfl) h.1.1 rfl (Nat.le_of_ble_eq_true rfl) dJ4_append_bf812_2 (by omega) (by omega) (by omega) (c_apI (by omega) h hl hx) (fun r μ' hz => ?_)
    obtain ⟨rfl, hz⟩ := hz
    refine r_pop g dJ4_append_bf812_5 rfl ?_
    refine r_aload_n g dJ4_append_bf812_6 rfl ?_
    exact hr.2.2.2 _ rfl (Or.inl ⟨_, rfl⟩) _ _ _ _ _ _ dJ4_append_bf812_7 (Or.inr ⟨_, rfl⟩) (by omega) (by omega) ⟨rfl, hz⟩)
theorem c_chr4 {i x : Nat} (hd : 3 ≤ d) (h : sb μ a b N l) (hi : l[i]? = some x) : xC d yJ4_charAt_5068e cJ4_charAt_5068e 2 (some .char) 0 0 [.ref a, .int (nI i)] μ ro (fun r μ' => r = some (.int (nI x)) ∧ μ' = μ) :=
  xC_intro (own := RJ4) (lv := [(0, .ref a), (1, .int (nI i))]) (by decide) rfl (Nat.le_of_ble_eq_true rfl) rfl (fun J g hr => by
    refine r_aload_n g dJ4_charAt_5068e_0 rfl ?_
    refine r_iload_n g dJ4_charAt_5068e_1 rfl ?_
    refine r_callSU (d' := d - 1) (st := []) (As := [.int (nI i)]) g vJ4_329 (show vwCl[0]? = some ("java/lang/StringBuilder", TJ4, 4) from rfl) h.1.1 rfl (Nat.le_of_ble_eq_true rfl) dJ4_charAt_5068e_2 (by omega) (by omega) (by omega) (c_chr5 (by omega) h hi) (fun r μ' hz => ?_)
    obtain ⟨rfl, hz⟩ := hz
    exact hr.2.1 _ rfl _ _ _ _ _ _ dJ4_charAt_5068e_5 (chr_ok x (h.2.2.2 i x hi).1).2.2.2.2 (by omega) (by omega) ⟨rfl, hz⟩)
theorem c_set4 (hd : 2 ≤ d) (h : sb μ a b N l) : xC d yJ4_setLength_d00df cJ4_setLength_d00df 2 none 0 0 [.ref a, .int 0] μ ro (fun r μ' => r = none ∧ sb μ' a b N [] ∧ sF a b b μ μ') :=
  xC_intro (own := RJ4) (lv := [(0, .ref a), (1, .int 0)]) (by decide) rfl (Nat.le_of_ble_eq_true rfl) rfl (fun J g hr => by
    refine r_aload_n g dJ4_setLength_d00df_0 rfl ?_
    refine r_iload_n g dJ4_setLength_d00df_1 rfl ?_
    refine r_callSU (d' := d - 1) (st := []) (As := [.int 0]) g vJ4_333 (show vwCl[0]? = some ("java/lang/StringBuilder", TJ4, 4) from rfl) h.1.1 rfl (Nat.le_of_ble_eq_true rfl) dJ4_setLength_d00df_2 (by omega) (by omega) (by omega) (c_set (by omega) h) (fun r μ' hz => ?_)
    obtain ⟨rfl, hz⟩ := hz
    exact hr.1 rfl _ _ _ _ _ dJ4_setLength_d00df_5 (by omega) (by omega) ⟨rfl, hz⟩)
theorem c_len4 (hd : 1 ≤ d) (h : sb μ a b N l) : xC d yJ4_length_8abf5 cJ4_length_8abf5 1 (some .int) 0 0 [.ref a] μ ro (fun r μ' => r = some (.int (nI l.length)) ∧ μ' = μ) :=
  xC_intro (own := RJ4) (lv := [(0, .ref a)]) (by decide) rfl (Nat.le_of_ble_eq_true rfl) rfl (fun J g hr => by
    refine r_aload_n g dJ4_length_8abf5_0 rfl ?_
    refine r_callSU (d' := d - 1) (st := []) (As := []) g vJ4_343 (show vwCl[0]? = some ("java/lang/StringBuilder", TJ4, 4) from rfl) h.1.1 rfl (Nat.le_of_ble_eq_true rfl) dJ4_length_8abf5_1 (by omega) (by omega) (by omega) (c_len5 h) (fun r μ' hz => ?_)
    obtain ⟨rfl, hz⟩ := hz
    exact hr.2.1 _ rfl _ _ _ _ _ _ dJ4_length_8abf5_4 rfl (by omega) (by omega) ⟨rfl, hz⟩)
end sbe
