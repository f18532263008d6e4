theorem dX4_forget_0 : decode cX4_forget 0 = .ok (.aload_n 0, 1) := by decide +kernel
theorem dX4_forget_1 : decode cX4_forget 1 = .ok (.iconst 0, 1) := by decide +kernel
theorem dX4_forget_2 : decode cX4_forget 2 = .ok (.putfield 7, 3) := by decide +kernel
theorem dX4_forget_5 : decode cX4_forget 5 = .ok (.return_, 1) := by decide +kernel
set_option maxHeartbeats 4000000 in
set_option maxRecDepth 100000 in
theorem B_X4_forget_0 {d : Nat} {ro : Nat → Nat} {J : JT} {Z : Option Value → Hp → Prop} (g : xCtx RX4 cX4_forget 1 d 0 0 yX4_forget.name ro J) (hr : xRet cX4_forget none 0 0 Z J) {μ : Hp} {a0 : Nat} (hs_a0 : hS μ a0 = some (8, 3))
    (h : Z none (wI μ a0 0 0)) :
    J μ 0 0 0 [(0, .ref a0)] [] := by
  refine r_aload_n g dX4_forget_0 rfl ?_
  refine r_iconst g 0 dX4_forget_1 (by decide) ?_
  refine r_putI g fX4_7 rfl hs_a0 rfl rfl dX4_forget_2 ?_
  exact hr.1 rfl _ _ _ _ _ dX4_forget_5 (Nat.le_refl 0) (Nat.le_refl 0) h
theorem I_X4_forget {d : Nat} {ro : Nat → Nat} {Z : Option Value → Hp → Prop} {μ : Hp} {a0 : Nat} (h : ∀ J, xCtx RX4 cX4_forget 1 d 0 0 yX4_forget.name ro J → xRet cX4_forget none 0 0 Z J → J μ 0 0 0 [(0, .ref a0)] []) : xC d yX4_forget cX4_forget 1 none 0 0 [.ref a0] μ ro Z :=
  xC_intro (own := RX4) (lv := [(0, .ref a0)]) (by decide) rfl (Nat.le_of_ble_eq_true rfl) rfl (fun J g hr => r_sub g (lv' := [(0, .ref a0)]) (⟨rfl, trivial⟩) (h J g hr))
theorem dX4_keep_0 : decode cX4_keep 0 = .ok (.aload_n 1, 1) := by decide +kernel
theorem dX4_keep_1 : decode cX4_keep 1 = .ok (.getfield 22, 3) := by decide +kernel
theorem dX4_keep_4 : decode cX4_keep 4 = .ok (.iconst 0, 1) := by decide +kernel
theorem dX4_keep_5 : decode cX4_keep 5 = .ok (.aload_n 0, 1) := by decide +kernel
theorem dX4_keep_6 : decode cX4_keep 6 = .ok (.getfield 18, 3) := by decide +kernel
theorem dX4_keep_9 : decode cX4_keep 9 = .ok (.aload_n 0, 1) := by decide +kernel
theorem dX4_keep_10 : decode cX4_keep 10 = .ok (.getfield 13, 3) := by decide +kernel
theorem dX4_keep_13 : decode cX4_keep 13 = .ok (.bipush 112, 2) := by decide +kernel
theorem dX4_keep_15 : decode cX4_keep 15 = .ok (.imul, 1) := by decide +kernel
theorem dX4_keep_16 : decode cX4_keep 16 = .ok (.bipush 112, 2) := by decide +kernel
theorem dX4_keep_18 : decode cX4_keep 18 = .ok (.invokestatic 25, 3) := by decide +kernel
theorem dX4_keep_21 : decode cX4_keep 21 = .ok (.aload_n 0, 1) := by decide +kernel
theorem dX4_keep_22 : decode cX4_keep 22 = .ok (.aload_n 0, 1) := by decide +kernel
theorem dX4_keep_23 : decode cX4_keep 23 = .ok (.getfield 13, 3) := by decide +kernel
theorem dX4_keep_26 : decode cX4_keep 26 = .ok (.iconst 1, 1) := by decide +kernel
theorem dX4_keep_27 : decode cX4_keep 27 = .ok (.iadd, 1) := by decide +kernel
theorem dX4_keep_28 : decode cX4_keep 28 = .ok (.bipush 40, 2) := by decide +kernel
theorem dX4_keep_30 : decode cX4_keep 30 = .ok (.irem, 1) := by decide +kernel
theorem dX4_keep_31 : decode cX4_keep 31 = .ok (.putfield 13, 3) := by decide +kernel
theorem dX4_keep_34 : decode cX4_keep 34 = .ok (.aload_n 0, 1) := by decide +kernel
theorem dX4_keep_35 : decode cX4_keep 35 = .ok (.aload_n 0, 1) := by decide +kernel
theorem dX4_keep_36 : decode cX4_keep 36 = .ok (.getfield 7, 3) := by decide +kernel
theorem dX4_keep_39 : decode cX4_keep 39 = .ok (.iconst 1, 1) := by decide +kernel
theorem dX4_keep_40 : decode cX4_keep 40 = .ok (.iadd, 1) := by decide +kernel
theorem dX4_keep_41 : decode cX4_keep 41 = .ok (.bipush 40, 2) := by decide +kernel
theorem dX4_keep_43 : decode cX4_keep 43 = .ok (.invokestatic 31, 3) := by decide +kernel
theorem dX4_keep_46 : decode cX4_keep 46 = .ok (.putfield 7, 3) := by decide +kernel
theorem dX4_keep_49 : decode cX4_keep 49 = .ok (.return_, 1) := by decide +kernel
set_option maxHeartbeats 4000000 in
set_option maxRecDepth 100000 in
theorem B_X4_keep_0 {d : Nat} {ro : Nat → Nat} {J : JT} {Z : Option Value → Hp → Prop} (g : xCtx RX4 cX4_keep 2 d 0 0 yX4_keep.name ro J) (hr : xRet cX4_keep none 0 0 Z J) {μ : Hp} {a0 : Nat} {a1 : Nat} {a1_row : Nat} {a0_rows : Nat} {N_a1_row : Nat} {N_a0_rows : Nat} (hs_a1 : hS μ a1 = some (12, 4)) (hr_a1_row : hR μ a1 0 = some a1_row) (hs_a0 : hS μ a0 = some (8, 3)) (hr_a0_rows : hR μ a0 2 = some a0_rows) (hs_a1_row : hS μ a1_row = some (0, N_a1_row)) (hs_a0_rows : hS μ a0_rows = some (0, N_a0_rows)) (hd9 : 1 ≤ d)
    (h : xcpOK 0 ((hI μ a0 1) * 112) 112 N_a1_row N_a0_rows ∧ (∀ v2 : Int32, v2 = (hI (wRow μ a0_rows (va_cpy (hI μ a1_row) (hI μ a0_rows) 0 (((hI μ a0 1) * 112).toNatClampNeg) 112)) a0 1) → (∀ v3 : Int32, v3 = (hI (wI (wRow μ a0_rows (va_cpy (hI μ a1_row) (hI μ a0_rows) 0 (((hI μ a0 1) * 112).toNatClampNeg) 112)) a0 1 ((v2 + 1) - (v2 + 1) / 40 * 40)) a0 0) → Z none (wI (wI (wRow μ a0_rows (va_cpy (hI μ a1_row) (hI μ a0_rows) 0 (((hI μ a0 1) * 112).toNatClampNeg) 112)) a0 1 ((v2 + 1) - (v2 + 1) / 40 * 40)) a0 0 (if 40 < (v3 + 1) then 40 else (v3 + 1)))))) :
    J μ 0 0 0 [(0, .ref a0), (1, .ref a1)] [] := by
  refine r_aload_n g dX4_keep_0 rfl ?_
  refine r_getR g fX4_22 rfl hs_a1 hr_a1_row dX4_keep_1 ?_
  refine r_iconst g 0 dX4_keep_4 (by decide) ?_
  refine r_aload_n g dX4_keep_5 rfl ?_
  refine r_getR g fX4_18 rfl hs_a0 hr_a0_rows dX4_keep_6 ?_
  refine r_aload_n g dX4_keep_9 rfl ?_
  refine r_getI g fX4_13 rfl hs_a0 dX4_keep_10 ?_
  refine r_bipush g 112 dX4_keep_13 (by decide) ?_
  refine r_imul g dX4_keep_15 ?_
  refine r_bipush g 112 dX4_keep_16 (by decide) ?_
  obtain ⟨hc1, h⟩ := h
  refine r_copyi g tX4_25 hd9 (Nat.le_of_ble_eq_true rfl) hs_a1_row hs_a0_rows hc1 dX4_keep_18 ?_
  refine r_aload_n g dX4_keep_21 rfl ?_
  refine r_aload_n g dX4_keep_22 rfl ?_
  refine r_getI g fX4_13 rfl hs_a0 dX4_keep_23 ?_
  refine r_nmI (fun v2 ev2 => ?_)
  replace h := h v2 ev2
  refine r_iconst g 1 dX4_keep_26 (by decide) ?_
  refine r_iadd g dX4_keep_27 ?_
  refine r_bipush g 40 dX4_keep_28 (by decide) ?_
  refine r_irem g (by decide) dX4_keep_30 ?_
  refine r_putI g fX4_13 rfl hs_a0 rfl rfl dX4_keep_31 ?_
  refine r_aload_n g dX4_keep_34 rfl ?_
  refine r_aload_n g dX4_keep_35 rfl ?_
  refine r_getI g fX4_7 rfl hs_a0 dX4_keep_36 ?_
  refine r_nmI (fun v3 ev3 => ?_)
  replace h := h v3 ev3
  refine r_iconst g 1 dX4_keep_39 (by decide) ?_
  refine r_iadd g dX4_keep_40 ?_
  refine r_bipush g 40 dX4_keep_41 (by decide) ?_
  refine r_mmin g tX4_31 hd9 (Nat.le_refl 0) (Nat.le_refl 0) (Nat.le_of_ble_eq_true rfl) dX4_keep_43 ?_
  refine r_putI g fX4_7 rfl hs_a0 rfl rfl dX4_keep_46 ?_
  exact hr.1 rfl _ _ _ _ _ dX4_keep_49 (Nat.le_refl 0) (Nat.le_refl 0) h
theorem I_X4_keep {d : Nat} {ro : Nat → Nat} {Z : Option Value → Hp → Prop} {μ : Hp} {a0 : Nat} {a1 : Nat} (h : ∀ J, xCtx RX4 cX4_keep 2 d 0 0 yX4_keep.name ro J → xRet cX4_keep none 0 0 Z J → J μ 0 0 0 [(0, .ref a0), (1, .ref a1)] []) : xC d yX4_keep cX4_keep 2 none 0 0 [.ref a0, .ref a1] μ ro Z :=
  xC_intro (own := RX4) (lv := [(0, .ref a0), (1, .ref a1)]) (by decide) rfl (Nat.le_of_ble_eq_true rfl) rfl (fun J g hr => r_sub g (lv' := [(0, .ref a0), (1, .ref a1)]) (⟨rfl, rfl, trivial⟩) (h J g hr))
theorem dX4_giveBack_0 : decode cX4_giveBack 0 = .ok (.aload_n 0, 1) := by decide +kernel
theorem dX4_giveBack_1 : decode cX4_giveBack 1 = .ok (.getfield 7, 3) := by decide +kernel
theorem dX4_giveBack_4 : decode cX4_giveBack 4 = .ok (.ifCond .ne 5, 3) := by decide +kernel
theorem dX4_giveBack_7 : decode cX4_giveBack 7 = .ok (.iconst 0, 1) := by decide +kernel
theorem dX4_giveBack_8 : decode cX4_giveBack 8 = .ok (.ireturn, 1) := by decide +kernel
theorem dX4_giveBack_9 : decode cX4_giveBack 9 = .ok (.aload_n 0, 1) := by decide +kernel
theorem dX4_giveBack_10 : decode cX4_giveBack 10 = .ok (.aload_n 0, 1) := by decide +kernel
theorem dX4_giveBack_11 : decode cX4_giveBack 11 = .ok (.getfield 13, 3) := by decide +kernel
theorem dX4_giveBack_14 : decode cX4_giveBack 14 = .ok (.bipush 40, 2) := by decide +kernel
theorem dX4_giveBack_16 : decode cX4_giveBack 16 = .ok (.iadd, 1) := by decide +kernel
theorem dX4_giveBack_17 : decode cX4_giveBack 17 = .ok (.iconst 1, 1) := by decide +kernel
theorem dX4_giveBack_18 : decode cX4_giveBack 18 = .ok (.isub, 1) := by decide +kernel
theorem dX4_giveBack_19 : decode cX4_giveBack 19 = .ok (.bipush 40, 2) := by decide +kernel
theorem dX4_giveBack_21 : decode cX4_giveBack 21 = .ok (.irem, 1) := by decide +kernel
theorem dX4_giveBack_22 : decode cX4_giveBack 22 = .ok (.putfield 13, 3) := by decide +kernel
theorem dX4_giveBack_25 : decode cX4_giveBack 25 = .ok (.aload_n 0, 1) := by decide +kernel
theorem dX4_giveBack_26 : decode cX4_giveBack 26 = .ok (.getfield 18, 3) := by decide +kernel
theorem dX4_giveBack_29 : decode cX4_giveBack 29 = .ok (.aload_n 0, 1) := by decide +kernel
theorem dX4_giveBack_30 : decode cX4_giveBack 30 = .ok (.getfield 13, 3) := by decide +kernel
theorem dX4_giveBack_33 : decode cX4_giveBack 33 = .ok (.bipush 112, 2) := by decide +kernel
theorem dX4_giveBack_35 : decode cX4_giveBack 35 = .ok (.imul, 1) := by decide +kernel
theorem dX4_giveBack_36 : decode cX4_giveBack 36 = .ok (.aload_n 1, 1) := by decide +kernel
theorem dX4_giveBack_37 : decode cX4_giveBack 37 = .ok (.getfield 22, 3) := by decide +kernel
theorem dX4_giveBack_40 : decode cX4_giveBack 40 = .ok (.iconst 0, 1) := by decide +kernel
theorem dX4_giveBack_41 : decode cX4_giveBack 41 = .ok (.bipush 112, 2) := by decide +kernel
theorem dX4_giveBack_43 : decode cX4_giveBack 43 = .ok (.invokestatic 25, 3) := by decide +kernel
theorem dX4_giveBack_46 : decode cX4_giveBack 46 = .ok (.aload_n 0, 1) := by decide +kernel
theorem dX4_giveBack_47 : decode cX4_giveBack 47 = .ok (.dup, 1) := by decide +kernel
theorem dX4_giveBack_48 : decode cX4_giveBack 48 = .ok (.getfield 7, 3) := by decide +kernel
theorem dX4_giveBack_51 : decode cX4_giveBack 51 = .ok (.iconst 1, 1) := by decide +kernel
theorem dX4_giveBack_52 : decode cX4_giveBack 52 = .ok (.isub, 1) := by decide +kernel
theorem dX4_giveBack_53 : decode cX4_giveBack 53 = .ok (.putfield 7, 3) := by decide +kernel
theorem dX4_giveBack_56 : decode cX4_giveBack 56 = .ok (.iconst 1, 1) := by decide +kernel
theorem dX4_giveBack_57 : decode cX4_giveBack 57 = .ok (.ireturn, 1) := by decide +kernel
set_option maxHeartbeats 4000000 in
set_option maxRecDepth 100000 in
theorem B_X4_giveBack_0 {d : Nat} {ro : Nat → Nat} {J : JT} {Z : Option Value → Hp → Prop} (g : xCtx RX4 cX4_giveBack 2 d 0 0 yX4_giveBack.name ro J) (hr : xRet cX4_giveBack (some .boolean) 0 0 Z J) {μ : Hp} {a0 : Nat} {a1 : Nat} {a0_rows : Nat} {a1_row : Nat} {N_a0_rows : Nat} {N_a1_row : Nat} (hs_a0 : hS μ a0 = some (8, 3)) (hr_a0_rows : hR μ a0 2 = some a0_rows) (hs_a1 : hS μ a1 = some (12, 4)) (hr_a1_row : hR μ a1 0 = some a1_row) (hs_a0_rows : hS μ a0_rows = some (0, N_a0_rows)) (hs_a1_row : hS μ a1_row = some (0, N_a1_row)) (hd9 : 1 ≤ d)
    (h : ((¬ (hI μ a0 0) = 0 → (∀ v2 : Int32, v2 = (hI (wI μ a0 1 ((((hI μ a0 1) + 40) - 1) - (((hI μ a0 1) + 40) - 1) / 40 * 40)) a0 1) → xcpOK (v2 * 112) 0 112 N_a0_rows N_a1_row ∧ (∀ v4 : Int32, v4 = (hI (wRow (wI μ a0 1 ((((hI μ a0 1) + 40) - 1) - (((hI μ a0 1) + 40) - 1) / 40 * 40)) a1_row (va_cpy (hI (wI μ a0 1 ((((hI μ a0 1) + 40) - 1) - (((hI μ a0 1) + 40) - 1) / 40 * 40)) a0_rows) (hI (wI μ a0 1 ((((hI μ a0 1) + 40) - 1) - (((hI μ a0 1) + 40) - 1) / 40 * 40)) a1_row) ((v2 * 112).toNatClampNeg) 0 112)) a0 0) → Z (some (.int 1)) (wI (wRow (wI μ a0 1 ((((hI μ a0 1) + 40) - 1) - (((hI μ a0 1) + 40) - 1) / 40 * 40)) a1_row (va_cpy (hI (wI μ a0 1 ((((hI μ a0 1) + 40) - 1) - (((hI μ a0 1) + 40) - 1) / 40 * 40)) a0_rows) (hI (wI μ a0 1 ((((hI μ a0 1) + 40) - 1) - (((hI μ a0 1) + 40) - 1) / 40 * 40)) a1_row) ((v2 * 112).toNatClampNeg) 0 112)) a0 0 (v4 - 1))))) ∧ ((hI μ a0 0) = 0 → Z (some (.int 0)) μ))) :
    J μ 0 0 0 [(0, .ref a0), (1, .ref a1)] [] := by
  refine r_aload_n g dX4_giveBack_0 rfl ?_
  refine r_getI g fX4_7 rfl hs_a0 dX4_giveBack_1 ?_
  refine r_if_ne g 9 dX4_giveBack_4 (by decide) (fun c1 => ?_) (fun c1 => ?_)
  · replace h := h.1 c1
    refine r_aload_n g dX4_giveBack_9 rfl ?_
    refine r_aload_n g dX4_giveBack_10 rfl ?_
    refine r_getI g fX4_13 rfl hs_a0 dX4_giveBack_11 ?_
    refine r_bipush g 40 dX4_giveBack_14 (by decide) ?_
    refine r_iadd g dX4_giveBack_16 ?_
    refine r_iconst g 1 dX4_giveBack_17 (by decide) ?_
    refine r_isub g dX4_giveBack_18 ?_
    refine r_bipush g 40 dX4_giveBack_19 (by decide) ?_
    refine r_irem g (by decide) dX4_giveBack_21 ?_
    refine r_putI g fX4_13 rfl hs_a0 rfl rfl dX4_giveBack_22 ?_
    refine r_aload_n g dX4_giveBack_25 rfl ?_
    refine r_getR g fX4_18 rfl hs_a0 hr_a0_rows dX4_giveBack_26 ?_
    refine r_aload_n g dX4_giveBack_29 rfl ?_
    refine r_getI g fX4_13 rfl hs_a0 dX4_giveBack_30 ?_
    refine r_nmI (fun v2 ev2 => ?_)
    replace h := h v2 ev2
    refine r_bipush g 112 dX4_giveBack_33 (by decide) ?_
    refine r_imul g dX4_giveBack_35 ?_
    refine r_aload_n g dX4_giveBack_36 rfl ?_
    refine r_getR g fX4_22 rfl hs_a1 hr_a1_row dX4_giveBack_37 ?_
    refine r_iconst g 0 dX4_giveBack_40 (by decide) ?_
    refine r_bipush g 112 dX4_giveBack_41 (by decide) ?_
    obtain ⟨hc3, h⟩ := h
    refine r_copyi g tX4_25 hd9 (Nat.le_of_ble_eq_true rfl) hs_a0_rows hs_a1_row hc3 dX4_giveBack_43 ?_
    refine r_aload_n g dX4_giveBack_46 rfl ?_
    refine r_dup g dX4_giveBack_47 rfl ?_
    refine r_getI g fX4_7 rfl hs_a0 dX4_giveBack_48 ?_
    refine r_nmI (fun v4 ev4 => ?_)
    replace h := h v4 ev4
    refine r_iconst g 1 dX4_giveBack_51 (by decide) ?_
    refine r_isub g dX4_giveBack_52 ?_
    refine r_putI g fX4_7 rfl hs_a0 rfl rfl dX4_giveBack_53 ?_
    refine r_iconst g 1 dX4_giveBack_56 (by decide) ?_
    exact hr.2.1 _ rfl _ _ _ _ _ _ dX4_giveBack_57 (by decide) (Nat.le_refl 0) (Nat.le_refl 0) h
  · replace h := h.2 c1
    refine r_iconst g 0 dX4_giveBack_7 (by decide) ?_
    exact hr.2.1 _ rfl _ _ _ _ _ _ dX4_giveBack_8 (by decide) (Nat.le_refl 0) (Nat.le_refl 0) h
theorem I_X4_giveBack {d : Nat} {ro : Nat → Nat} {Z : Option Value → Hp → Prop} {μ : Hp} {a0 : Nat} {a1 : Nat} (h : ∀ J, xCtx RX4 cX4_giveBack 2 d 0 0 yX4_giveBack.name ro J → xRet cX4_giveBack (some .boolean) 0 0 Z J → J μ 0 0 0 [(0, .ref a0), (1, .ref a1)] []) : xC d yX4_giveBack cX4_giveBack 2 (some .boolean) 0 0 [.ref a0, .ref a1] μ ro Z :=
  xC_intro (own := RX4) (lv := [(0, .ref a0), (1, .ref a1)]) (by decide) rfl (Nat.le_of_ble_eq_true rfl) rfl (fun J g hr => r_sub g (lv' := [(0, .ref a0), (1, .ref a1)]) (⟨rfl, rfl, trivial⟩) (h J g hr))
