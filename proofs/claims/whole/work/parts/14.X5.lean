theorem dX5_forget_0 : decode cX5_forget 0 = .ok (.aload_n 0, 1) := by decide +kernel
theorem dX5_forget_1 : decode cX5_forget 1 = .ok (.iconst 0, 1) := by decide +kernel
theorem dX5_forget_2 : decode cX5_forget 2 = .ok (.putfield 11, 3) := by decide +kernel
theorem dX5_forget_5 : decode cX5_forget 5 = .ok (.return_, 1) := by decide +kernel
set_option maxHeartbeats 4000000 in
set_option maxRecDepth 100000 in
theorem B_X5_forget_0 {d : Nat} {ro : Nat → Nat} {J : JT} {Z : Option Value → Hp → Prop} (g : xCtx RX5 cX5_forget 1 d 0 0 yX5_forget.name ro J) (hr : xRet cX5_forget none 0 0 Z J) {μ : Hp} {a0 : Nat} (hs_a0 : hS μ a0 = some (9, 3))
    (h : Z none (wI μ a0 0 0)) :
    J μ 0 0 0 [(0, .ref a0)] [] := by
  refine r_aload_n g dX5_forget_0 rfl ?_
  refine r_iconst g 0 dX5_forget_1 (by decide) ?_
  refine r_putI g fX5_11 rfl hs_a0 rfl rfl dX5_forget_2 ?_
  exact hr.1 rfl _ _ _ _ _ dX5_forget_5 (Nat.le_refl 0) (Nat.le_refl 0) h
theorem I_X5_forget {d : Nat} {ro : Nat → Nat} {Z : Option Value → Hp → Prop} {μ : Hp} {a0 : Nat} (h : ∀ J, xCtx RX5 cX5_forget 1 d 0 0 yX5_forget.name ro J → xRet cX5_forget none 0 0 Z J → J μ 0 0 0 [(0, .ref a0)] []) : xC d yX5_forget cX5_forget 1 none 0 0 [.ref a0] μ ro Z :=
  xC_intro (own := RX5) (lv := [(0, .ref a0)]) (by decide) rfl (Nat.le_of_ble_eq_true rfl) rfl (fun J g hr => r_sub g (lv' := [(0, .ref a0)]) (⟨rfl, trivial⟩) (h J g hr))
theorem dX5_add_0 : decode cX5_add 0 = .ok (.aload_n 0, 1) := by decide +kernel
theorem dX5_add_1 : decode cX5_add 1 = .ok (.getfield 15, 3) := by decide +kernel
theorem dX5_add_4 : decode cX5_add 4 = .ok (.iconst 3, 1) := by decide +kernel
theorem dX5_add_5 : decode cX5_add 5 = .ok (.imul, 1) := by decide +kernel
theorem dX5_add_6 : decode cX5_add 6 = .ok (.istore 4, 2) := by decide +kernel
theorem dX5_add_8 : decode cX5_add 8 = .ok (.aload_n 0, 1) := by decide +kernel
theorem dX5_add_9 : decode cX5_add 9 = .ok (.getfield 18, 3) := by decide +kernel
theorem dX5_add_12 : decode cX5_add 12 = .ok (.iload 4, 2) := by decide +kernel
theorem dX5_add_14 : decode cX5_add 14 = .ok (.iload_n 1, 1) := by decide +kernel
theorem dX5_add_15 : decode cX5_add 15 = .ok (.iastore, 1) := by decide +kernel
theorem dX5_add_16 : decode cX5_add 16 = .ok (.aload_n 0, 1) := by decide +kernel
theorem dX5_add_17 : decode cX5_add 17 = .ok (.getfield 18, 3) := by decide +kernel
theorem dX5_add_20 : decode cX5_add 20 = .ok (.iload 4, 2) := by decide +kernel
theorem dX5_add_22 : decode cX5_add 22 = .ok (.iconst 1, 1) := by decide +kernel
theorem dX5_add_23 : decode cX5_add 23 = .ok (.iadd, 1) := by decide +kernel
theorem dX5_add_24 : decode cX5_add 24 = .ok (.iload_n 2, 1) := by decide +kernel
theorem dX5_add_25 : decode cX5_add 25 = .ok (.iastore, 1) := by decide +kernel
theorem dX5_add_26 : decode cX5_add 26 = .ok (.aload_n 0, 1) := by decide +kernel
theorem dX5_add_27 : decode cX5_add 27 = .ok (.getfield 18, 3) := by decide +kernel
theorem dX5_add_30 : decode cX5_add 30 = .ok (.iload 4, 2) := by decide +kernel
theorem dX5_add_32 : decode cX5_add 32 = .ok (.iconst 2, 1) := by decide +kernel
theorem dX5_add_33 : decode cX5_add 33 = .ok (.iadd, 1) := by decide +kernel
theorem dX5_add_34 : decode cX5_add 34 = .ok (.iload_n 3, 1) := by decide +kernel
theorem dX5_add_35 : decode cX5_add 35 = .ok (.iastore, 1) := by decide +kernel
theorem dX5_add_36 : decode cX5_add 36 = .ok (.aload_n 0, 1) := by decide +kernel
theorem dX5_add_37 : decode cX5_add 37 = .ok (.aload_n 0, 1) := by decide +kernel
theorem dX5_add_38 : decode cX5_add 38 = .ok (.getfield 15, 3) := by decide +kernel
theorem dX5_add_41 : decode cX5_add 41 = .ok (.iconst 1, 1) := by decide +kernel
theorem dX5_add_42 : decode cX5_add 42 = .ok (.iadd, 1) := by decide +kernel
theorem dX5_add_43 : decode cX5_add 43 = .ok (.bipush 100, 2) := by decide +kernel
theorem dX5_add_45 : decode cX5_add 45 = .ok (.irem, 1) := by decide +kernel
theorem dX5_add_46 : decode cX5_add 46 = .ok (.putfield 15, 3) := by decide +kernel
theorem dX5_add_49 : decode cX5_add 49 = .ok (.aload_n 0, 1) := by decide +kernel
theorem dX5_add_50 : decode cX5_add 50 = .ok (.aload_n 0, 1) := by decide +kernel
theorem dX5_add_51 : decode cX5_add 51 = .ok (.getfield 11, 3) := by decide +kernel
theorem dX5_add_54 : decode cX5_add 54 = .ok (.iconst 1, 1) := by decide +kernel
theorem dX5_add_55 : decode cX5_add 55 = .ok (.iadd, 1) := by decide +kernel
theorem dX5_add_56 : decode cX5_add 56 = .ok (.bipush 100, 2) := by decide +kernel
theorem dX5_add_58 : decode cX5_add 58 = .ok (.invokestatic 22, 3) := by decide +kernel
theorem dX5_add_61 : decode cX5_add 61 = .ok (.putfield 11, 3) := by decide +kernel
theorem dX5_add_64 : decode cX5_add 64 = .ok (.return_, 1) := by decide +kernel
set_option maxHeartbeats 4000000 in
set_option maxRecDepth 100000 in
theorem B_X5_add_0 {d : Nat} {ro : Nat → Nat} {J : JT} {Z : Option Value → Hp → Prop} (g : xCtx RX5 cX5_add 5 d 0 0 yX5_add.name ro J) (hr : xRet cX5_add none 0 0 Z J) {μ : Hp} {a0 : Nat} {x1 : Int32} {x2 : Int32} {x3 : Int32} {a0_row : Nat} {N_a0_row : Nat} (hs_a0 : hS μ a0 = some (9, 3)) (hr_a0_row : hR μ a0 2 = some a0_row) (hs_a0_row : hS μ a0_row = some (0, N_a0_row)) (hd9 : 1 ≤ d)
    (h : vp_in ((hI μ a0 1) * 3) N_a0_row ∧ vp_in (((hI μ a0 1) * 3) + 1) N_a0_row ∧ vp_in (((hI μ a0 1) * 3) + 2) N_a0_row ∧ (∀ v4 : Int32, v4 = (hI (wI (wI (wI μ a0_row (((hI μ a0 1) * 3).toNatClampNeg) x1) a0_row ((((hI μ a0 1) * 3) + 1).toNatClampNeg) x2) a0_row ((((hI μ a0 1) * 3) + 2).toNatClampNeg) x3) a0 1) → (∀ v5 : Int32, v5 = (hI (wI (wI (wI (wI μ a0_row (((hI μ a0 1) * 3).toNatClampNeg) x1) a0_row ((((hI μ a0 1) * 3) + 1).toNatClampNeg) x2) a0_row ((((hI μ a0 1) * 3) + 2).toNatClampNeg) x3) a0 1 ((v4 + 1) - (v4 + 1) / 100 * 100)) a0 0) → Z none (wI (wI (wI (wI (wI μ a0_row (((hI μ a0 1) * 3).toNatClampNeg) x1) a0_row ((((hI μ a0 1) * 3) + 1).toNatClampNeg) x2) a0_row ((((hI μ a0 1) * 3) + 2).toNatClampNeg) x3) a0 1 ((v4 + 1) - (v4 + 1) / 100 * 100)) a0 0 (if 100 < (v5 + 1) then 100 else (v5 + 1)))))) :
    J μ 0 0 0 [(0, .ref a0), (1, .int x1), (2, .int x2), (3, .int x3)] [] := by
  refine r_aload_n g dX5_add_0 rfl ?_
  refine r_getI g fX5_15 rfl hs_a0 dX5_add_1 ?_
  refine r_iconst g 3 dX5_add_4 (by decide) ?_
  refine r_imul g dX5_add_5 ?_
  refine r_istore g [(4, .int ((hI μ a0 1) * 3)), (0, .ref a0), (1, .int x1), (2, .int x2), (3, .int x3)] dX5_add_6 (by decide) rfl ?_
  refine r_aload_n g dX5_add_8 rfl ?_
  refine r_getR g fX5_18 rfl hs_a0 hr_a0_row dX5_add_9 ?_
  refine r_iload g dX5_add_12 rfl ?_
  refine r_iload_n g dX5_add_14 rfl ?_
  obtain ⟨hi1, h⟩ := h
  refine r_iastore g hs_a0_row hi1 dX5_add_15 ?_
  refine r_aload_n g dX5_add_16 rfl ?_
  refine r_getR g fX5_18 rfl hs_a0 hr_a0_row dX5_add_17 ?_
  refine r_iload g dX5_add_20 rfl ?_
  refine r_iconst g 1 dX5_add_22 (by decide) ?_
  refine r_iadd g dX5_add_23 ?_
  refine r_iload_n g dX5_add_24 rfl ?_
  obtain ⟨hi2, h⟩ := h
  refine r_iastore g hs_a0_row hi2 dX5_add_25 ?_
  refine r_aload_n g dX5_add_26 rfl ?_
  refine r_getR g fX5_18 rfl hs_a0 hr_a0_row dX5_add_27 ?_
  refine r_iload g dX5_add_30 rfl ?_
  refine r_iconst g 2 dX5_add_32 (by decide) ?_
  refine r_iadd g dX5_add_33 ?_
  refine r_iload_n g dX5_add_34 rfl ?_
  obtain ⟨hi3, h⟩ := h
  refine r_iastore g hs_a0_row hi3 dX5_add_35 ?_
  refine r_aload_n g dX5_add_36 rfl ?_
  refine r_aload_n g dX5_add_37 rfl ?_
  refine r_getI g fX5_15 rfl hs_a0 dX5_add_38 ?_
  refine r_nmI (fun v4 ev4 => ?_)
  replace h := h v4 ev4
  refine r_iconst g 1 dX5_add_41 (by decide) ?_
  refine r_iadd g dX5_add_42 ?_
  refine r_bipush g 100 dX5_add_43 (by decide) ?_
  refine r_irem g (by decide) dX5_add_45 ?_
  refine r_putI g fX5_15 rfl hs_a0 rfl rfl dX5_add_46 ?_
  refine r_aload_n g dX5_add_49 rfl ?_
  refine r_aload_n g dX5_add_50 rfl ?_
  refine r_getI g fX5_11 rfl hs_a0 dX5_add_51 ?_
  refine r_nmI (fun v5 ev5 => ?_)
  replace h := h v5 ev5
  refine r_iconst g 1 dX5_add_54 (by decide) ?_
  refine r_iadd g dX5_add_55 ?_
  refine r_bipush g 100 dX5_add_56 (by decide) ?_
  refine r_mmin g tX5_22 hd9 (Nat.le_refl 0) (Nat.le_refl 0) (Nat.le_of_ble_eq_true rfl) dX5_add_58 ?_
  refine r_putI g fX5_11 rfl hs_a0 rfl rfl dX5_add_61 ?_
  exact hr.1 rfl _ _ _ _ _ dX5_add_64 (Nat.le_refl 0) (Nat.le_refl 0) h
theorem I_X5_add {d : Nat} {ro : Nat → Nat} {Z : Option Value → Hp → Prop} {μ : Hp} {a0 : Nat} {x1 : Int32} {x2 : Int32} {x3 : Int32} (h : ∀ J, xCtx RX5 cX5_add 5 d 0 0 yX5_add.name ro J → xRet cX5_add none 0 0 Z J → J μ 0 0 0 [(0, .ref a0), (1, .int x1), (2, .int x2), (3, .int x3)] []) : xC d yX5_add cX5_add 5 none 0 0 [.ref a0, .int x1, .int x2, .int x3] μ ro Z :=
  xC_intro (own := RX5) (lv := [(0, .ref a0), (1, .int x1), (2, .int x2), (3, .int x3)]) (by decide) rfl (Nat.le_of_ble_eq_true rfl) rfl (fun J g hr => r_sub g (lv' := [(0, .ref a0), (1, .int x1), (2, .int x2), (3, .int x3)]) (⟨rfl, rfl, rfl, rfl, trivial⟩) (h J g hr))
theorem dX5_dropLatest_0 : decode cX5_dropLatest 0 = .ok (.aload_n 0, 1) := by decide +kernel
theorem dX5_dropLatest_1 : decode cX5_dropLatest 1 = .ok (.getfield 11, 3) := by decide +kernel
theorem dX5_dropLatest_4 : decode cX5_dropLatest 4 = .ok (.ifCond .le 29, 3) := by decide +kernel
theorem dX5_dropLatest_7 : decode cX5_dropLatest 7 = .ok (.aload_n 0, 1) := by decide +kernel
theorem dX5_dropLatest_8 : decode cX5_dropLatest 8 = .ok (.aload_n 0, 1) := by decide +kernel
theorem dX5_dropLatest_9 : decode cX5_dropLatest 9 = .ok (.getfield 15, 3) := by decide +kernel
theorem dX5_dropLatest_12 : decode cX5_dropLatest 12 = .ok (.bipush 100, 2) := by decide +kernel
theorem dX5_dropLatest_14 : decode cX5_dropLatest 14 = .ok (.iadd, 1) := by decide +kernel
theorem dX5_dropLatest_15 : decode cX5_dropLatest 15 = .ok (.iconst 1, 1) := by decide +kernel
theorem dX5_dropLatest_16 : decode cX5_dropLatest 16 = .ok (.isub, 1) := by decide +kernel
theorem dX5_dropLatest_17 : decode cX5_dropLatest 17 = .ok (.bipush 100, 2) := by decide +kernel
theorem dX5_dropLatest_19 : decode cX5_dropLatest 19 = .ok (.irem, 1) := by decide +kernel
theorem dX5_dropLatest_20 : decode cX5_dropLatest 20 = .ok (.putfield 15, 3) := by decide +kernel
theorem dX5_dropLatest_23 : decode cX5_dropLatest 23 = .ok (.aload_n 0, 1) := by decide +kernel
theorem dX5_dropLatest_24 : decode cX5_dropLatest 24 = .ok (.dup, 1) := by decide +kernel
theorem dX5_dropLatest_25 : decode cX5_dropLatest 25 = .ok (.getfield 11, 3) := by decide +kernel
theorem dX5_dropLatest_28 : decode cX5_dropLatest 28 = .ok (.iconst 1, 1) := by decide +kernel
theorem dX5_dropLatest_29 : decode cX5_dropLatest 29 = .ok (.isub, 1) := by decide +kernel
theorem dX5_dropLatest_30 : decode cX5_dropLatest 30 = .ok (.putfield 11, 3) := by decide +kernel
theorem dX5_dropLatest_33 : decode cX5_dropLatest 33 = .ok (.return_, 1) := by decide +kernel
set_option maxHeartbeats 4000000 in
set_option maxRecDepth 100000 in
theorem B_X5_dropLatest_0 {d : Nat} {ro : Nat → Nat} {J : JT} {Z : Option Value → Hp → Prop} (g : xCtx RX5 cX5_dropLatest 1 d 0 0 yX5_dropLatest.name ro J) (hr : xRet cX5_dropLatest none 0 0 Z J) {μ : Hp} {a0 : Nat} (hs_a0 : hS μ a0 = some (9, 3))
    (h : (((hI μ a0 0) ≤ 0 → Z none μ) ∧ (¬ (hI μ a0 0) ≤ 0 → (∀ v2 : Int32, v2 = ((((hI μ a0 1) + 100) - 1) - (((hI μ a0 1) + 100) - 1) / 100 * 100) → Z none (wI (wI μ a0 1 v2) a0 0 ((hI (wI μ a0 1 v2) a0 0) - 1)))))) :
    J μ 0 0 0 [(0, .ref a0)] [] := by
  refine r_aload_n g dX5_dropLatest_0 rfl ?_
  refine r_getI g fX5_11 rfl hs_a0 dX5_dropLatest_1 ?_
  refine r_if_le g 33 dX5_dropLatest_4 (by decide) (fun c1 => ?_) (fun c1 => ?_)
  · replace h := h.1 c1
    exact hr.1 rfl _ _ _ _ _ dX5_dropLatest_33 (Nat.le_refl 0) (Nat.le_refl 0) h
  · replace h := h.2 c1
    refine r_aload_n g dX5_dropLatest_7 rfl ?_
    refine r_aload_n g dX5_dropLatest_8 rfl ?_
    refine r_getI g fX5_15 rfl hs_a0 dX5_dropLatest_9 ?_
    refine r_bipush g 100 dX5_dropLatest_12 (by decide) ?_
    refine r_iadd g dX5_dropLatest_14 ?_
    refine r_iconst g 1 dX5_dropLatest_15 (by decide) ?_
    refine r_isub g dX5_dropLatest_16 ?_
    refine r_bipush g 100 dX5_dropLatest_17 (by decide) ?_
    refine r_irem g (by decide) dX5_dropLatest_19 ?_
    refine r_nmI (fun v2 ev2 => ?_)
    replace h := h v2 ev2
    refine r_putI g fX5_15 rfl hs_a0 rfl rfl dX5_dropLatest_20 ?_
    refine r_aload_n g dX5_dropLatest_23 rfl ?_
    refine r_dup g dX5_dropLatest_24 rfl ?_
    refine r_getI g fX5_11 rfl hs_a0 dX5_dropLatest_25 ?_
    refine r_iconst g 1 dX5_dropLatest_28 (by decide) ?_
    refine r_isub g dX5_dropLatest_29 ?_
    refine r_putI g fX5_11 rfl hs_a0 rfl rfl dX5_dropLatest_30 ?_
    exact hr.1 rfl _ _ _ _ _ dX5_dropLatest_33 (Nat.le_refl 0) (Nat.le_refl 0) h
theorem I_X5_dropLatest {d : Nat} {ro : Nat → Nat} {Z : Option Value → Hp → Prop} {μ : Hp} {a0 : Nat} (h : ∀ J, xCtx RX5 cX5_dropLatest 1 d 0 0 yX5_dropLatest.name ro J → xRet cX5_dropLatest none 0 0 Z J → J μ 0 0 0 [(0, .ref a0)] []) : xC d yX5_dropLatest cX5_dropLatest 1 none 0 0 [.ref a0] μ ro Z :=
  xC_intro (own := RX5) (lv := [(0, .ref a0)]) (by decide) rfl (Nat.le_of_ble_eq_true rfl) rfl (fun J g hr => r_sub g (lv' := [(0, .ref a0)]) (⟨rfl, trivial⟩) (h J g hr))
theorem dX5_size_0 : decode cX5_size 0 = .ok (.aload_n 0, 1) := by decide +kernel
theorem dX5_size_1 : decode cX5_size 1 = .ok (.getfield 11, 3) := by decide +kernel
theorem dX5_size_4 : decode cX5_size 4 = .ok (.bipush 60, 2) := by decide +kernel
theorem dX5_size_6 : decode cX5_size 6 = .ok (.invokestatic 22, 3) := by decide +kernel
theorem dX5_size_9 : decode cX5_size 9 = .ok (.ireturn, 1) := by decide +kernel
set_option maxHeartbeats 4000000 in
set_option maxRecDepth 100000 in
theorem B_X5_size_0 {d : Nat} {ro : Nat → Nat} {J : JT} {Z : Option Value → Hp → Prop} (g : xCtx RX5 cX5_size 1 d 0 0 yX5_size.name ro J) (hr : xRet cX5_size (some .int) 0 0 Z J) {μ : Hp} {a0 : Nat} (hs_a0 : hS μ a0 = some (9, 3)) (hd9 : 1 ≤ d)
    (h : Z (some (.int (if 60 < (hI μ a0 0) then 60 else (hI μ a0 0)))) μ) :
    J μ 0 0 0 [(0, .ref a0)] [] := by
  refine r_aload_n g dX5_size_0 rfl ?_
  refine r_getI g fX5_11 rfl hs_a0 dX5_size_1 ?_
  refine r_bipush g 60 dX5_size_4 (by decide) ?_
  refine r_mmin g tX5_22 hd9 (Nat.le_refl 0) (Nat.le_refl 0) (Nat.le_of_ble_eq_true rfl) dX5_size_6 ?_
  exact hr.2.1 _ rfl _ _ _ _ _ _ dX5_size_9 rfl (Nat.le_refl 0) (Nat.le_refl 0) h
theorem I_X5_size {d : Nat} {ro : Nat → Nat} {Z : Option Value → Hp → Prop} {μ : Hp} {a0 : Nat} (h : ∀ J, xCtx RX5 cX5_size 1 d 0 0 yX5_size.name ro J → xRet cX5_size (some .int) 0 0 Z J → J μ 0 0 0 [(0, .ref a0)] []) : xC d yX5_size cX5_size 1 (some .int) 0 0 [.ref a0] μ ro Z :=
  xC_intro (own := RX5) (lv := [(0, .ref a0)]) (by decide) rfl (Nat.le_of_ble_eq_true rfl) rfl (fun J g hr => r_sub g (lv' := [(0, .ref a0)]) (⟨rfl, trivial⟩) (h J g hr))
theorem dX5_part_0 : decode cX5_part 0 = .ok (.aload_n 0, 1) := by decide +kernel
theorem dX5_part_1 : decode cX5_part 1 = .ok (.getfield 18, 3) := by decide +kernel
theorem dX5_part_4 : decode cX5_part 4 = .ok (.aload_n 0, 1) := by decide +kernel
theorem dX5_part_5 : decode cX5_part 5 = .ok (.getfield 15, 3) := by decide +kernel
theorem dX5_part_8 : decode cX5_part 8 = .ok (.bipush 100, 2) := by decide +kernel
theorem dX5_part_10 : decode cX5_part 10 = .ok (.iadd, 1) := by decide +kernel
theorem dX5_part_11 : decode cX5_part 11 = .ok (.iconst 1, 1) := by decide +kernel
theorem dX5_part_12 : decode cX5_part 12 = .ok (.isub, 1) := by decide +kernel
theorem dX5_part_13 : decode cX5_part 13 = .ok (.iload_n 1, 1) := by decide +kernel
theorem dX5_part_14 : decode cX5_part 14 = .ok (.isub, 1) := by decide +kernel
theorem dX5_part_15 : decode cX5_part 15 = .ok (.bipush 100, 2) := by decide +kernel
theorem dX5_part_17 : decode cX5_part 17 = .ok (.irem, 1) := by decide +kernel
theorem dX5_part_18 : decode cX5_part 18 = .ok (.iconst 3, 1) := by decide +kernel
theorem dX5_part_19 : decode cX5_part 19 = .ok (.imul, 1) := by decide +kernel
theorem dX5_part_20 : decode cX5_part 20 = .ok (.iload_n 2, 1) := by decide +kernel
theorem dX5_part_21 : decode cX5_part 21 = .ok (.iadd, 1) := by decide +kernel
theorem dX5_part_22 : decode cX5_part 22 = .ok (.iaload, 1) := by decide +kernel
theorem dX5_part_23 : decode cX5_part 23 = .ok (.ireturn, 1) := by decide +kernel
set_option maxHeartbeats 4000000 in
set_option maxRecDepth 100000 in
theorem B_X5_part_0 {d : Nat} {ro : Nat → Nat} {J : JT} {Z : Option Value → Hp → Prop} (g : xCtx RX5 cX5_part 3 d 0 0 yX5_part.name ro J) (hr : xRet cX5_part (some .int) 0 0 Z J) {μ : Hp} {a0 : Nat} {x1 : Int32} {x2 : Int32} {a0_row : Nat} {N_a0_row : Nat} (hs_a0 : hS μ a0 = some (9, 3)) (hr_a0_row : hR μ a0 2 = some a0_row) (hs_a0_row : hS μ a0_row = some (0, N_a0_row))
    (h : (∀ v1 : Int32, v1 = (((((hI μ a0 1) + 100) - 1) - x1) - ((((hI μ a0 1) + 100) - 1) - x1) / 100 * 100) → vp_in ((v1 * 3) + x2) N_a0_row ∧ Z (some (.int (hI μ a0_row (((v1 * 3) + x2).toNatClampNeg)))) μ)) :
    J μ 0 0 0 [(0, .ref a0), (1, .int x1), (2, .int x2)] [] := by
  refine r_aload_n g dX5_part_0 rfl ?_
  refine r_getR g fX5_18 rfl hs_a0 hr_a0_row dX5_part_1 ?_
  refine r_aload_n g dX5_part_4 rfl ?_
  refine r_getI g fX5_15 rfl hs_a0 dX5_part_5 ?_
  refine r_bipush g 100 dX5_part_8 (by decide) ?_
  refine r_iadd g dX5_part_10 ?_
  refine r_iconst g 1 dX5_part_11 (by decide) ?_
  refine r_isub g dX5_part_12 ?_
  refine r_iload_n g dX5_part_13 rfl ?_
  refine r_isub g dX5_part_14 ?_
  refine r_bipush g 100 dX5_part_15 (by decide) ?_
  refine r_irem g (by decide) dX5_part_17 ?_
  refine r_nmI (fun v1 ev1 => ?_)
  replace h := h v1 ev1
  refine r_iconst g 3 dX5_part_18 (by decide) ?_
  refine r_imul g dX5_part_19 ?_
  refine r_iload_n g dX5_part_20 rfl ?_
  refine r_iadd g dX5_part_21 ?_
  obtain ⟨hi2, h⟩ := h
  refine r_iaload g hs_a0_row hi2 dX5_part_22 ?_
  exact hr.2.1 _ rfl _ _ _ _ _ _ dX5_part_23 rfl (Nat.le_refl 0) (Nat.le_refl 0) h
theorem I_X5_part {d : Nat} {ro : Nat → Nat} {Z : Option Value → Hp → Prop} {μ : Hp} {a0 : Nat} {x1 : Int32} {x2 : Int32} (h : ∀ J, xCtx RX5 cX5_part 3 d 0 0 yX5_part.name ro J → xRet cX5_part (some .int) 0 0 Z J → J μ 0 0 0 [(0, .ref a0), (1, .int x1), (2, .int x2)] []) : xC d yX5_part cX5_part 3 (some .int) 0 0 [.ref a0, .int x1, .int x2] μ ro Z :=
  xC_intro (own := RX5) (lv := [(0, .ref a0), (1, .int x1), (2, .int x2)]) (by decide) rfl (Nat.le_of_ble_eq_true rfl) rfl (fun J g hr => r_sub g (lv' := [(0, .ref a0), (1, .int x1), (2, .int x2)]) (⟨rfl, rfl, rfl, trivial⟩) (h J g hr))
theorem dX5_copyFrom_0 : decode cX5_copyFrom 0 = .ok (.aload_n 1, 1) := by decide +kernel
theorem dX5_copyFrom_1 : decode cX5_copyFrom 1 = .ok (.getfield 18, 3) := by decide +kernel
theorem dX5_copyFrom_4 : decode cX5_copyFrom 4 = .ok (.iconst 0, 1) := by decide +kernel
theorem dX5_copyFrom_5 : decode cX5_copyFrom 5 = .ok (.aload_n 0, 1) := by decide +kernel
theorem dX5_copyFrom_6 : decode cX5_copyFrom 6 = .ok (.getfield 18, 3) := by decide +kernel
theorem dX5_copyFrom_9 : decode cX5_copyFrom 9 = .ok (.iconst 0, 1) := by decide +kernel
theorem dX5_copyFrom_10 : decode cX5_copyFrom 10 = .ok (.aload_n 0, 1) := by decide +kernel
theorem dX5_copyFrom_11 : decode cX5_copyFrom 11 = .ok (.getfield 18, 3) := by decide +kernel
theorem dX5_copyFrom_14 : decode cX5_copyFrom 14 = .ok (.arraylength, 1) := by decide +kernel
theorem dX5_copyFrom_15 : decode cX5_copyFrom 15 = .ok (.invokestatic 28, 3) := by decide +kernel
theorem dX5_copyFrom_18 : decode cX5_copyFrom 18 = .ok (.aload_n 0, 1) := by decide +kernel
theorem dX5_copyFrom_19 : decode cX5_copyFrom 19 = .ok (.aload_n 1, 1) := by decide +kernel
theorem dX5_copyFrom_20 : decode cX5_copyFrom 20 = .ok (.getfield 11, 3) := by decide +kernel
theorem dX5_copyFrom_23 : decode cX5_copyFrom 23 = .ok (.putfield 11, 3) := by decide +kernel
theorem dX5_copyFrom_26 : decode cX5_copyFrom 26 = .ok (.aload_n 0, 1) := by decide +kernel
theorem dX5_copyFrom_27 : decode cX5_copyFrom 27 = .ok (.aload_n 1, 1) := by decide +kernel
theorem dX5_copyFrom_28 : decode cX5_copyFrom 28 = .ok (.getfield 15, 3) := by decide +kernel
theorem dX5_copyFrom_31 : decode cX5_copyFrom 31 = .ok (.putfield 15, 3) := by decide +kernel
theorem dX5_copyFrom_34 : decode cX5_copyFrom 34 = .ok (.return_, 1) := by decide +kernel
set_option maxHeartbeats 4000000 in
set_option maxRecDepth 100000 in
theorem B_X5_copyFrom_0 {d : Nat} {ro : Nat → Nat} {J : JT} {Z : Option Value → Hp → Prop} (g : xCtx RX5 cX5_copyFrom 2 d 0 0 yX5_copyFrom.name ro J) (hr : xRet cX5_copyFrom none 0 0 Z J) {μ : Hp} {a0 : Nat} {a1 : Nat} {a1_row : Nat} {a0_row : Nat} {N_a0_row : Nat} {N_a1_row : Nat} (hs_a1 : hS μ a1 = some (9, 3)) (hr_a1_row : hR μ a1 2 = some a1_row) (hs_a0 : hS μ a0 = some (9, 3)) (hr_a0_row : hR μ a0 2 = some a0_row) (hs_a0_row : hS μ a0_row = some (0, N_a0_row)) (hs_a1_row : hS μ a1_row = some (0, N_a1_row)) (hd9 : 1 ≤ d)
    (h : xcpOK 0 0 (Int32.ofNat N_a0_row) N_a1_row N_a0_row ∧ (∀ v2 : Int32, v2 = (hI (wRow μ a0_row (va_cpy (hI μ a1_row) (hI μ a0_row) 0 0 ((Int32.ofNat N_a0_row).toNatClampNeg))) a1 0) → (∀ v3 : Int32, v3 = (hI (wI (wRow μ a0_row (va_cpy (hI μ a1_row) (hI μ a0_row) 0 0 ((Int32.ofNat N_a0_row).toNatClampNeg))) a0 0 v2) a1 1) → Z none (wI (wI (wRow μ a0_row (va_cpy (hI μ a1_row) (hI μ a0_row) 0 0 ((Int32.ofNat N_a0_row).toNatClampNeg))) a0 0 v2) a0 1 v3)))) :
    J μ 0 0 0 [(0, .ref a0), (1, .ref a1)] [] := by
  refine r_aload_n g dX5_copyFrom_0 rfl ?_
  refine r_getR g fX5_18 rfl hs_a1 hr_a1_row dX5_copyFrom_1 ?_
  refine r_iconst g 0 dX5_copyFrom_4 (by decide) ?_
  refine r_aload_n g dX5_copyFrom_5 rfl ?_
  refine r_getR g fX5_18 rfl hs_a0 hr_a0_row dX5_copyFrom_6 ?_
  refine r_iconst g 0 dX5_copyFrom_9 (by decide) ?_
  refine r_aload_n g dX5_copyFrom_10 rfl ?_
  refine r_getR g fX5_18 rfl hs_a0 hr_a0_row dX5_copyFrom_11 ?_
  refine r_alenI g hs_a0_row dX5_copyFrom_14 ?_
  obtain ⟨hc1, h⟩ := h
  refine r_copyi g tX5_28 hd9 (Nat.le_of_ble_eq_true rfl) hs_a1_row hs_a0_row hc1 dX5_copyFrom_15 ?_
  refine r_aload_n g dX5_copyFrom_18 rfl ?_
  refine r_aload_n g dX5_copyFrom_19 rfl ?_
  refine r_getI g fX5_11 rfl hs_a1 dX5_copyFrom_20 ?_
  refine r_nmI (fun v2 ev2 => ?_)
  replace h := h v2 ev2
  refine r_putI g fX5_11 rfl hs_a0 rfl rfl dX5_copyFrom_23 ?_
  refine r_aload_n g dX5_copyFrom_26 rfl ?_
  refine r_aload_n g dX5_copyFrom_27 rfl ?_
  refine r_getI g fX5_15 rfl hs_a1 dX5_copyFrom_28 ?_
  refine r_nmI (fun v3 ev3 => ?_)
  replace h := h v3 ev3
  refine r_putI g fX5_15 rfl hs_a0 rfl rfl dX5_copyFrom_31 ?_
  exact hr.1 rfl _ _ _ _ _ dX5_copyFrom_34 (Nat.le_refl 0) (Nat.le_refl 0) h
theorem I_X5_copyFrom {d : Nat} {ro : Nat → Nat} {Z : Option Value → Hp → Prop} {μ : Hp} {a0 : Nat} {a1 : Nat} (h : ∀ J, xCtx RX5 cX5_copyFrom 2 d 0 0 yX5_copyFrom.name ro J → xRet cX5_copyFrom none 0 0 Z J → J μ 0 0 0 [(0, .ref a0), (1, .ref a1)] []) : xC d yX5_copyFrom cX5_copyFrom 2 none 0 0 [.ref a0, .ref a1] μ ro Z :=
  xC_intro (own := RX5) (lv := [(0, .ref a0), (1, .ref a1)]) (by decide) rfl (Nat.le_of_ble_eq_true rfl) rfl (fun J g hr => r_sub g (lv' := [(0, .ref a0), (1, .ref a1)]) (⟨rfl, rfl, trivial⟩) (h J g hr))
