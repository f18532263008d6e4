theorem dX8_clear_0 : decode cX8_clear 0 = .ok (.iconst 0, 1) := by decide +kernel
theorem dX8_clear_1 : decode cX8_clear 1 = .ok (.istore_n 1, 1) := by decide +kernel
theorem dX8_clear_2 : decode cX8_clear 2 = .ok (.iload_n 1, 1) := by decide +kernel
theorem dX8_clear_3 : decode cX8_clear 3 = .ok (.bipush 112, 2) := by decide +kernel
theorem dX8_clear_5 : decode cX8_clear 5 = .ok (.if_icmp .ge 16, 3) := by decide +kernel
theorem dX8_clear_8 : decode cX8_clear 8 = .ok (.aload_n 0, 1) := by decide +kernel
theorem dX8_clear_9 : decode cX8_clear 9 = .ok (.getfield 11, 3) := by decide +kernel
theorem dX8_clear_12 : decode cX8_clear 12 = .ok (.iload_n 1, 1) := by decide +kernel
theorem dX8_clear_13 : decode cX8_clear 13 = .ok (.iconst 0, 1) := by decide +kernel
theorem dX8_clear_14 : decode cX8_clear 14 = .ok (.iastore, 1) := by decide +kernel
theorem dX8_clear_15 : decode cX8_clear 15 = .ok (.iinc 1 1, 3) := by decide +kernel
theorem dX8_clear_18 : decode cX8_clear 18 = .ok (.goto (-16), 3) := by decide +kernel
theorem dX8_clear_21 : decode cX8_clear 21 = .ok (.aload_n 0, 1) := by decide +kernel
theorem dX8_clear_22 : decode cX8_clear 22 = .ok (.getfield 11, 3) := by decide +kernel
theorem dX8_clear_25 : decode cX8_clear 25 = .ok (.iconst 0, 1) := by decide +kernel
theorem dX8_clear_26 : decode cX8_clear 26 = .ok (.bipush 50, 2) := by decide +kernel
theorem dX8_clear_28 : decode cX8_clear 28 = .ok (.iastore, 1) := by decide +kernel
theorem dX8_clear_29 : decode cX8_clear 29 = .ok (.return_, 1) := by decide +kernel
set_option maxHeartbeats 4000000 in
set_option maxRecDepth 100000 in
theorem B_X8_clear_0 {d : Nat} {ro : Nat → Nat} {J : JT} {Z : Option Value → Hp → Prop} (g : xCtx RX8 cX8_clear 2 d 0 0 yX8_clear.name ro J) (hr : xRet cX8_clear none 0 0 Z J) {μ : Hp} {a0 : Nat} 
    (h : J μ 0 0 2 [(0, .ref a0), (1, .int 0)] []) :
    J μ 0 0 0 [(0, .ref a0)] [] := by
  refine r_iconst g 0 dX8_clear_0 (by decide) ?_
  refine r_istore_n g [(1, .int 0), (0, .ref a0)] dX8_clear_1 (by decide) rfl ?_
  refine r_sub g (lv' := [(0, .ref a0), (1, .int 0)]) (⟨rfl, rfl, trivial⟩) ?_
  exact h
set_option maxHeartbeats 4000000 in
set_option maxRecDepth 100000 in
theorem B_X8_clear_2 {d : Nat} {ro : Nat → Nat} {J : JT} {Z : Option Value → Hp → Prop} (g : xCtx RX8 cX8_clear 2 d 0 0 yX8_clear.name ro J) (hr : xRet cX8_clear none 0 0 Z J) {μ : Hp} {a0 : Nat} {x1 : Int32} {a0_row : Nat} {N_a0_row : Nat} (hs_a0 : hS μ a0 = some (12, 4)) (hr_a0_row : hR μ a0 0 = some a0_row) (hs_a0_row : hS μ a0_row = some (0, N_a0_row))
    (h : ((112 ≤ x1 → vp_in 0 N_a0_row ∧ Z none (wI μ a0_row 0 50)) ∧ (¬ 112 ≤ x1 → vp_in x1 N_a0_row ∧ J (wI μ a0_row x1.toNatClampNeg 0) 0 0 2 [(0, .ref a0), (1, .int (x1 + 1))] []))) :
    J μ 0 0 2 [(0, .ref a0), (1, .int x1)] [] := by
  refine r_iload_n g dX8_clear_2 rfl ?_
  refine r_bipush g 112 dX8_clear_3 (by decide) ?_
  refine r_icmp_ge g 21 dX8_clear_5 (by decide) (fun c1 => ?_) (fun c1 => ?_)
  · replace h := h.1 c1
    refine r_aload_n g dX8_clear_21 rfl ?_
    refine r_getR g fX8_11 rfl hs_a0 hr_a0_row dX8_clear_22 ?_
    refine r_iconst g 0 dX8_clear_25 (by decide) ?_
    refine r_bipush g 50 dX8_clear_26 (by decide) ?_
    obtain ⟨hi2, h⟩ := h
    refine r_iastore g hs_a0_row hi2 dX8_clear_28 ?_
    exact hr.1 rfl _ _ _ _ _ dX8_clear_29 (Nat.le_refl 0) (Nat.le_refl 0) h
  · replace h := h.2 c1
    refine r_aload_n g dX8_clear_8 rfl ?_
    refine r_getR g fX8_11 rfl hs_a0 hr_a0_row dX8_clear_9 ?_
    refine r_iload_n g dX8_clear_12 rfl ?_
    refine r_iconst g 0 dX8_clear_13 (by decide) ?_
    obtain ⟨hi3, h⟩ := h
    refine r_iastore g hs_a0_row hi3 dX8_clear_14 ?_
    refine r_iinc g (x1 + 1) [(1, .int (x1 + 1)), (0, .ref a0)] dX8_clear_15 rfl rfl (by decide) rfl ?_
    refine r_goto g 2 dX8_clear_18 (by decide) ?_
    refine r_sub g (lv' := [(0, .ref a0), (1, .int (x1 + 1))]) (⟨rfl, rfl, trivial⟩) ?_
    exact h
theorem I_X8_clear {d : Nat} {ro : Nat → Nat} {Z : Option Value → Hp → Prop} {μ : Hp} {a0 : Nat} (h : ∀ J, xCtx RX8 cX8_clear 2 d 0 0 yX8_clear.name ro J → xRet cX8_clear none 0 0 Z J → J μ 0 0 0 [(0, .ref a0)] []) : xC d yX8_clear cX8_clear 2 none 0 0 [.ref a0] μ ro Z :=
  xC_intro (own := RX8) (lv := [(0, .ref a0)]) (by decide) rfl (Nat.le_of_ble_eq_true rfl) rfl (fun J g hr => r_sub g (lv' := [(0, .ref a0)]) (⟨rfl, trivial⟩) (h J g hr))
theorem dX8_copyFrom_0 : decode cX8_copyFrom 0 = .ok (.aload_n 1, 1) := by decide +kernel
theorem dX8_copyFrom_1 : decode cX8_copyFrom 1 = .ok (.getfield 11, 3) := by decide +kernel
theorem dX8_copyFrom_4 : decode cX8_copyFrom 4 = .ok (.iconst 0, 1) := by decide +kernel
theorem dX8_copyFrom_5 : decode cX8_copyFrom 5 = .ok (.aload_n 0, 1) := by decide +kernel
theorem dX8_copyFrom_6 : decode cX8_copyFrom 6 = .ok (.getfield 11, 3) := by decide +kernel
theorem dX8_copyFrom_9 : decode cX8_copyFrom 9 = .ok (.iconst 0, 1) := by decide +kernel
theorem dX8_copyFrom_10 : decode cX8_copyFrom 10 = .ok (.bipush 112, 2) := by decide +kernel
theorem dX8_copyFrom_12 : decode cX8_copyFrom 12 = .ok (.invokestatic 26, 3) := by decide +kernel
theorem dX8_copyFrom_15 : decode cX8_copyFrom 15 = .ok (.aload_n 0, 1) := by decide +kernel
theorem dX8_copyFrom_16 : decode cX8_copyFrom 16 = .ok (.aload_n 1, 1) := by decide +kernel
theorem dX8_copyFrom_17 : decode cX8_copyFrom 17 = .ok (.getfield 22, 3) := by decide +kernel
theorem dX8_copyFrom_20 : decode cX8_copyFrom 20 = .ok (.putfield 22, 3) := by decide +kernel
theorem dX8_copyFrom_23 : decode cX8_copyFrom 23 = .ok (.aload_n 0, 1) := by decide +kernel
theorem dX8_copyFrom_24 : decode cX8_copyFrom 24 = .ok (.iconst (-1), 1) := by decide +kernel
theorem dX8_copyFrom_25 : decode cX8_copyFrom 25 = .ok (.iconst (-1), 1) := by decide +kernel
theorem dX8_copyFrom_26 : decode cX8_copyFrom 26 = .ok (.invokevirtual 32, 3) := by decide +kernel
theorem dX8_copyFrom_29 : decode cX8_copyFrom 29 = .ok (.return_, 1) := by decide +kernel
set_option maxHeartbeats 4000000 in
set_option maxRecDepth 100000 in
theorem B_X8_copyFrom_0 {d : Nat} {ro : Nat → Nat} {J : JT} {Z : Option Value → Hp → Prop} (g : xCtx RX8 cX8_copyFrom 2 d 0 0 yX8_copyFrom.name ro J) (hr : xRet cX8_copyFrom none 0 0 Z J) {μ : Hp} {a0 : Nat} {a1 : Nat} {a1_row : Nat} {a0_row : Nat} {N_a1_row : Nat} {N_a0_row : Nat} {a1_book : Nat} (hs_a1 : hS μ a1 = some (12, 4)) (hr_a1_row : hR μ a1 0 = some a1_row) (hs_a0 : hS μ a0 = some (12, 4)) (hr_a0_row : hR μ a0 0 = some a0_row) (hs_a1_row : hS μ a1_row = some (0, N_a1_row)) (hs_a0_row : hS μ a0_row = some (0, N_a0_row)) (hr_a1_book : hR μ a1 1 = some a1_book) (hd9 : 1 ≤ d)
    (h : xcpOK 0 0 112 N_a1_row N_a0_row ∧ xCall d yX8_lapse cX8_lapse 3 none [.ref a0, .int (-1), .int (-1)] (wR (wRow μ a0_row (va_cpy (hI μ a1_row) (hI μ a0_row) 0 0 112)) a0 1 (some a1_book)) ro (fun r2 μ3 => r2 = none ∧ Z none μ3)) :
    J μ 0 0 0 [(0, .ref a0), (1, .ref a1)] [] := by
  refine r_aload_n g dX8_copyFrom_0 rfl ?_
  refine r_getR g fX8_11 rfl hs_a1 hr_a1_row dX8_copyFrom_1 ?_
  refine r_iconst g 0 dX8_copyFrom_4 (by decide) ?_
  refine r_aload_n g dX8_copyFrom_5 rfl ?_
  refine r_getR g fX8_11 rfl hs_a0 hr_a0_row dX8_copyFrom_6 ?_
  refine r_iconst g 0 dX8_copyFrom_9 (by decide) ?_
  refine r_bipush g 112 dX8_copyFrom_10 (by decide) ?_
  obtain ⟨hc1, h⟩ := h
  refine r_copyi g tX8_26 hd9 (Nat.le_of_ble_eq_true rfl) hs_a1_row hs_a0_row hc1 dX8_copyFrom_12 ?_
  refine r_aload_n g dX8_copyFrom_15 rfl ?_
  refine r_aload_n g dX8_copyFrom_16 rfl ?_
  refine r_getR g fX8_22 rfl hs_a1 hr_a1_book dX8_copyFrom_17 ?_
  refine r_putR g fX8_22 rfl hs_a0 rfl rfl dX8_copyFrom_20 ?_
  refine r_aload_n g dX8_copyFrom_23 rfl ?_
  refine r_iconst g (-1) dX8_copyFrom_24 (by decide) ?_
  refine r_iconst g (-1) dX8_copyFrom_25 (by decide) ?_
  obtain ⟨d1, Z1, hc1, hd1, h1⟩ := h
  refine r_callV (st := []) (As := [.int (-1), .int (-1)]) g sX8_32 iX8_lapse eX8_lapse rfl hs_a0 rfl (Nat.le_of_ble_eq_true rfl) dX8_copyFrom_26 hd1 (Nat.le_refl 0) (Nat.le_refl 0) hc1 (fun r2 μ3 hZ1 => ?_)
  replace h := h1 _ _ hZ1
  clear h1 hc1 hd1 hZ1 Z1 d1
  obtain ⟨rfl, h⟩ := h
  exact hr.1 rfl _ _ _ _ _ dX8_copyFrom_29 (Nat.le_refl 0) (Nat.le_refl 0) h
theorem I_X8_copyFrom {d : Nat} {ro : Nat → Nat} {Z : Option Value → Hp → Prop} {μ : Hp} {a0 : Nat} {a1 : Nat} (h : ∀ J, xCtx RX8 cX8_copyFrom 2 d 0 0 yX8_copyFrom.name ro J → xRet cX8_copyFrom none 0 0 Z J → J μ 0 0 0 [(0, .ref a0), (1, .ref a1)] []) : xC d yX8_copyFrom cX8_copyFrom 2 none 0 0 [.ref a0, .ref a1] μ ro Z :=
  xC_intro (own := RX8) (lv := [(0, .ref a0), (1, .ref a1)]) (by decide) rfl (Nat.le_of_ble_eq_true rfl) rfl (fun J g hr => r_sub g (lv' := [(0, .ref a0), (1, .ref a1)]) (⟨rfl, rfl, trivial⟩) (h J g hr))
theorem dX8_lapse_0 : decode cX8_lapse 0 = .ok (.aload_n 0, 1) := by decide +kernel
theorem dX8_lapse_1 : decode cX8_lapse 1 = .ok (.iload_n 1, 1) := by decide +kernel
theorem dX8_lapse_2 : decode cX8_lapse 2 = .ok (.putfield 15, 3) := by decide +kernel
theorem dX8_lapse_5 : decode cX8_lapse 5 = .ok (.aload_n 0, 1) := by decide +kernel
theorem dX8_lapse_6 : decode cX8_lapse 6 = .ok (.iload_n 2, 1) := by decide +kernel
theorem dX8_lapse_7 : decode cX8_lapse 7 = .ok (.putfield 19, 3) := by decide +kernel
theorem dX8_lapse_10 : decode cX8_lapse 10 = .ok (.return_, 1) := by decide +kernel
set_option maxHeartbeats 4000000 in
set_option maxRecDepth 100000 in
theorem B_X8_lapse_0 {d : Nat} {ro : Nat → Nat} {J : JT} {Z : Option Value → Hp → Prop} (g : xCtx RX8 cX8_lapse 3 d 0 0 yX8_lapse.name ro J) (hr : xRet cX8_lapse none 0 0 Z J) {μ : Hp} {a0 : Nat} {x1 : Int32} {x2 : Int32} (hs_a0 : hS μ a0 = some (12, 4))
    (h : Z none (wI (wI μ a0 2 x1) a0 3 x2)) :
    J μ 0 0 0 [(0, .ref a0), (1, .int x1), (2, .int x2)] [] := by
  refine r_aload_n g dX8_lapse_0 rfl ?_
  refine r_iload_n g dX8_lapse_1 rfl ?_
  refine r_putI g fX8_15 rfl hs_a0 rfl rfl dX8_lapse_2 ?_
  refine r_aload_n g dX8_lapse_5 rfl ?_
  refine r_iload_n g dX8_lapse_6 rfl ?_
  refine r_putI g fX8_19 rfl hs_a0 rfl rfl dX8_lapse_7 ?_
  exact hr.1 rfl _ _ _ _ _ dX8_lapse_10 (Nat.le_refl 0) (Nat.le_refl 0) h
theorem I_X8_lapse {d : Nat} {ro : Nat → Nat} {Z : Option Value → Hp → Prop} {μ : Hp} {a0 : Nat} {x1 : Int32} {x2 : Int32} (h : ∀ J, xCtx RX8 cX8_lapse 3 d 0 0 yX8_lapse.name ro J → xRet cX8_lapse none 0 0 Z J → J μ 0 0 0 [(0, .ref a0), (1, .int x1), (2, .int x2)] []) : xC d yX8_lapse cX8_lapse 3 none 0 0 [.ref a0, .int x1, .int x2] μ ro Z :=
  xC_intro (own := RX8) (lv := [(0, .ref a0), (1, .int x1), (2, .int x2)]) (by decide) rfl (Nat.le_of_ble_eq_true rfl) rfl (fun J g hr => r_sub g (lv' := [(0, .ref a0), (1, .int x1), (2, .int x2)]) (⟨rfl, rfl, rfl, trivial⟩) (h J g hr))
theorem dX8_linkOf_0 : decode cX8_linkOf 0 = .ok (.iconst 0, 1) := by decide +kernel
theorem dX8_linkOf_1 : decode cX8_linkOf 1 = .ok (.istore 4, 2) := by decide +kernel
theorem dX8_linkOf_3 : decode cX8_linkOf 3 = .ok (.iload 4, 2) := by decide +kernel
theorem dX8_linkOf_5 : decode cX8_linkOf 5 = .ok (.aload_n 0, 1) := by decide +kernel
theorem dX8_linkOf_6 : decode cX8_linkOf 6 = .ok (.getfield 11, 3) := by decide +kernel
theorem dX8_linkOf_9 : decode cX8_linkOf 9 = .ok (.iconst 1, 1) := by decide +kernel
theorem dX8_linkOf_10 : decode cX8_linkOf 10 = .ok (.iaload, 1) := by decide +kernel
theorem dX8_linkOf_11 : decode cX8_linkOf 11 = .ok (.if_icmp .ge 54, 3) := by decide +kernel
theorem dX8_linkOf_14 : decode cX8_linkOf 14 = .ok (.aload_n 0, 1) := by decide +kernel
theorem dX8_linkOf_15 : decode cX8_linkOf 15 = .ok (.getfield 11, 3) := by decide +kernel
theorem dX8_linkOf_18 : decode cX8_linkOf 18 = .ok (.bipush 32, 2) := by decide +kernel
theorem dX8_linkOf_20 : decode cX8_linkOf 20 = .ok (.iload 4, 2) := by decide +kernel
theorem dX8_linkOf_22 : decode cX8_linkOf 22 = .ok (.iadd, 1) := by decide +kernel
theorem dX8_linkOf_23 : decode cX8_linkOf 23 = .ok (.iaload, 1) := by decide +kernel
theorem dX8_linkOf_24 : decode cX8_linkOf 24 = .ok (.iload_n 1, 1) := by decide +kernel
theorem dX8_linkOf_25 : decode cX8_linkOf 25 = .ok (.if_icmp .ne 34, 3) := by decide +kernel
theorem dX8_linkOf_28 : decode cX8_linkOf 28 = .ok (.aload_n 0, 1) := by decide +kernel
theorem dX8_linkOf_29 : decode cX8_linkOf 29 = .ok (.getfield 11, 3) := by decide +kernel
theorem dX8_linkOf_32 : decode cX8_linkOf 32 = .ok (.bipush 48, 2) := by decide +kernel
theorem dX8_linkOf_34 : decode cX8_linkOf 34 = .ok (.iload 4, 2) := by decide +kernel
theorem dX8_linkOf_36 : decode cX8_linkOf 36 = .ok (.iadd, 1) := by decide +kernel
theorem dX8_linkOf_37 : decode cX8_linkOf 37 = .ok (.iaload, 1) := by decide +kernel
theorem dX8_linkOf_38 : decode cX8_linkOf 38 = .ok (.iload_n 2, 1) := by decide +kernel
theorem dX8_linkOf_39 : decode cX8_linkOf 39 = .ok (.if_icmp .ne 20, 3) := by decide +kernel
theorem dX8_linkOf_42 : decode cX8_linkOf 42 = .ok (.aload_n 0, 1) := by decide +kernel
theorem dX8_linkOf_43 : decode cX8_linkOf 43 = .ok (.getfield 11, 3) := by decide +kernel
theorem dX8_linkOf_46 : decode cX8_linkOf 46 = .ok (.bipush 64, 2) := by decide +kernel
theorem dX8_linkOf_48 : decode cX8_linkOf 48 = .ok (.iload 4, 2) := by decide +kernel
theorem dX8_linkOf_50 : decode cX8_linkOf 50 = .ok (.iadd, 1) := by decide +kernel
theorem dX8_linkOf_51 : decode cX8_linkOf 51 = .ok (.iaload, 1) := by decide +kernel
theorem dX8_linkOf_52 : decode cX8_linkOf 52 = .ok (.iload_n 3, 1) := by decide +kernel
theorem dX8_linkOf_53 : decode cX8_linkOf 53 = .ok (.if_icmp .ne 6, 3) := by decide +kernel
theorem dX8_linkOf_56 : decode cX8_linkOf 56 = .ok (.iload 4, 2) := by decide +kernel
theorem dX8_linkOf_58 : decode cX8_linkOf 58 = .ok (.ireturn, 1) := by decide +kernel
theorem dX8_linkOf_59 : decode cX8_linkOf 59 = .ok (.iinc 4 1, 3) := by decide +kernel
theorem dX8_linkOf_62 : decode cX8_linkOf 62 = .ok (.goto (-59), 3) := by decide +kernel
theorem dX8_linkOf_65 : decode cX8_linkOf 65 = .ok (.iconst (-1), 1) := by decide +kernel
theorem dX8_linkOf_66 : decode cX8_linkOf 66 = .ok (.ireturn, 1) := by decide +kernel
set_option maxHeartbeats 4000000 in
set_option maxRecDepth 100000 in
theorem B_X8_linkOf_0 {d : Nat} {ro : Nat → Nat} {J : JT} {Z : Option Value → Hp → Prop} (g : xCtx RX8 cX8_linkOf 5 d 0 0 yX8_linkOf.name ro J) (hr : xRet cX8_linkOf (some .int) 0 0 Z J) {μ : Hp} {a0 : Nat} {x1 : Int32} {x2 : Int32} {x3 : Int32} 
    (h : J μ 0 0 3 [(0, .ref a0), (1, .int x1), (2, .int x2), (3, .int x3), (4, .int 0)] []) :
    J μ 0 0 0 [(0, .ref a0), (1, .int x1), (2, .int x2), (3, .int x3)] [] := by
  refine r_iconst g 0 dX8_linkOf_0 (by decide) ?_
  refine r_istore g [(4, .int 0), (0, .ref a0), (1, .int x1), (2, .int x2), (3, .int x3)] dX8_linkOf_1 (by decide) rfl ?_
  refine r_sub g (lv' := [(0, .ref a0), (1, .int x1), (2, .int x2), (3, .int x3), (4, .int 0)]) (⟨rfl, rfl, rfl, rfl, rfl, trivial⟩) ?_
  exact h
set_option maxHeartbeats 4000000 in
set_option maxRecDepth 100000 in
theorem B_X8_linkOf_3 {d : Nat} {ro : Nat → Nat} {J : JT} {Z : Option Value → Hp → Prop} (g : xCtx RX8 cX8_linkOf 5 d 0 0 yX8_linkOf.name ro J) (hr : xRet cX8_linkOf (some .int) 0 0 Z J) {μ : Hp} {a0 : Nat} {x1 : Int32} {x2 : Int32} {x3 : Int32} {x4 : Int32} {a0_row : Nat} {N_a0_row : Nat} (hs_a0 : hS μ a0 = some (12, 4)) (hr_a0_row : hR μ a0 0 = some a0_row) (hs_a0_row : hS μ a0_row = some (0, N_a0_row))
    (h : vp_in 1 N_a0_row ∧ (((hI μ a0_row 1) ≤ x4 → Z (some (.int (-1))) μ) ∧ (¬ (hI μ a0_row 1) ≤ x4 → vp_in (32 + x4) N_a0_row ∧ ((¬ (hI μ a0_row ((32 + x4).toNatClampNeg)) = x1 → J μ 0 0 3 [(0, .ref a0), (1, .int x1), (2, .int x2), (3, .int x3), (4, .int (x4 + 1))] []) ∧ ((hI μ a0_row ((32 + x4).toNatClampNeg)) = x1 → vp_in (48 + x4) N_a0_row ∧ ((¬ (hI μ a0_row ((48 + x4).toNatClampNeg)) = x2 → J μ 0 0 3 [(0, .ref a0), (1, .int x1), (2, .int x2), (3, .int x3), (4, .int (x4 + 1))] []) ∧ ((hI μ a0_row ((48 + x4).toNatClampNeg)) = x2 → vp_in (64 + x4) N_a0_row ∧ ((¬ (hI μ a0_row ((64 + x4).toNatClampNeg)) = x3 → J μ 0 0 3 [(0, .ref a0), (1, .int x1), (2, .int x2), (3, .int x3), (4, .int (x4 + 1))] []) ∧ ((hI μ a0_row ((64 + x4).toNatClampNeg)) = x3 → Z (some (.int x4)) μ))))))))) :
    J μ 0 0 3 [(0, .ref a0), (1, .int x1), (2, .int x2), (3, .int x3), (4, .int x4)] [] := by
  refine r_iload g dX8_linkOf_3 rfl ?_
  refine r_aload_n g dX8_linkOf_5 rfl ?_
  refine r_getR g fX8_11 rfl hs_a0 hr_a0_row dX8_linkOf_6 ?_
  refine r_iconst g 1 dX8_linkOf_9 (by decide) ?_
  obtain ⟨hi1, h⟩ := h
  refine r_iaload g hs_a0_row hi1 dX8_linkOf_10 ?_
  refine r_icmp_ge g 65 dX8_linkOf_11 (by decide) (fun c2 => ?_) (fun c2 => ?_)
  · replace h := h.1 c2
    refine r_iconst g (-1) dX8_linkOf_65 (by decide) ?_
    exact hr.2.1 _ rfl _ _ _ _ _ _ dX8_linkOf_66 rfl (Nat.le_refl 0) (Nat.le_refl 0) h
  · replace h := h.2 c2
    refine r_aload_n g dX8_linkOf_14 rfl ?_
    refine r_getR g fX8_11 rfl hs_a0 hr_a0_row dX8_linkOf_15 ?_
    refine r_bipush g 32 dX8_linkOf_18 (by decide) ?_
    refine r_iload g dX8_linkOf_20 rfl ?_
    refine r_iadd g dX8_linkOf_22 ?_
    obtain ⟨hi3, h⟩ := h
    refine r_iaload g hs_a0_row hi3 dX8_linkOf_23 ?_
    refine r_iload_n g dX8_linkOf_24 rfl ?_
    refine r_icmp_ne g 59 dX8_linkOf_25 (by decide) (fun c4 => ?_) (fun c4 => ?_)
    · replace h := h.1 c4
      refine r_iinc g (x4 + 1) [(4, .int (x4 + 1)), (0, .ref a0), (1, .int x1), (2, .int x2), (3, .int x3)] dX8_linkOf_59 rfl rfl (by decide) rfl ?_
      refine r_goto g 3 dX8_linkOf_62 (by decide) ?_
      refine r_sub g (lv' := [(0, .ref a0), (1, .int x1), (2, .int x2), (3, .int x3), (4, .int (x4 + 1))]) (⟨rfl, rfl, rfl, rfl, rfl, trivial⟩) ?_
      exact h
    · replace h := h.2 c4
      refine r_aload_n g dX8_linkOf_28 rfl ?_
      refine r_getR g fX8_11 rfl hs_a0 hr_a0_row dX8_linkOf_29 ?_
      refine r_bipush g 48 dX8_linkOf_32 (by decide) ?_
      refine r_iload g dX8_linkOf_34 rfl ?_
      refine r_iadd g dX8_linkOf_36 ?_
      obtain ⟨hi5, h⟩ := h
      refine r_iaload g hs_a0_row hi5 dX8_linkOf_37 ?_
      refine r_iload_n g dX8_linkOf_38 rfl ?_
      refine r_icmp_ne g 59 dX8_linkOf_39 (by decide) (fun c6 => ?_) (fun c6 => ?_)
      · replace h := h.1 c6
        refine r_iinc g (x4 + 1) [(4, .int (x4 + 1)), (0, .ref a0), (1, .int x1), (2, .int x2), (3, .int x3)] dX8_linkOf_59 rfl rfl (by decide) rfl ?_
        refine r_goto g 3 dX8_linkOf_62 (by decide) ?_
        refine r_sub g (lv' := [(0, .ref a0), (1, .int x1), (2, .int x2), (3, .int x3), (4, .int (x4 + 1))]) (⟨rfl, rfl, rfl, rfl, rfl, trivial⟩) ?_
        exact h
      · replace h := h.2 c6
        refine r_aload_n g dX8_linkOf_42 rfl ?_
        refine r_getR g fX8_11 rfl hs_a0 hr_a0_row dX8_linkOf_43 ?_
        refine r_bipush g 64 dX8_linkOf_46 (by decide) ?_
        refine r_iload g dX8_linkOf_48 rfl ?_
        refine r_iadd g dX8_linkOf_50 ?_
        obtain ⟨hi7, h⟩ := h
        refine r_iaload g hs_a0_row hi7 dX8_linkOf_51 ?_
        refine r_iload_n g dX8_linkOf_52 rfl ?_
        refine r_icmp_ne g 59 dX8_linkOf_53 (by decide) (fun c8 => ?_) (fun c8 => ?_)
        · replace h := h.1 c8
          refine r_iinc g (x4 + 1) [(4, .int (x4 + 1)), (0, .ref a0), (1, .int x1), (2, .int x2), (3, .int x3)] dX8_linkOf_59 rfl rfl (by decide) rfl ?_
          refine r_goto g 3 dX8_linkOf_62 (by decide) ?_
          refine r_sub g (lv' := [(0, .ref a0), (1, .int x1), (2, .int x2), (3, .int x3), (4, .int (x4 + 1))]) (⟨rfl, rfl, rfl, rfl, rfl, trivial⟩) ?_
          exact h
        · replace h := h.2 c8
          refine r_iload g dX8_linkOf_56 rfl ?_
          exact hr.2.1 _ rfl _ _ _ _ _ _ dX8_linkOf_58 rfl (Nat.le_refl 0) (Nat.le_refl 0) h
theorem I_X8_linkOf {d : Nat} {ro : Nat → Nat} {Z : Option Value → Hp → Prop} {μ : Hp} {a0 : Nat} {x1 : Int32} {x2 : Int32} {x3 : Int32} (h : ∀ J, xCtx RX8 cX8_linkOf 5 d 0 0 yX8_linkOf.name ro J → xRet cX8_linkOf (some .int) 0 0 Z J → J μ 0 0 0 [(0, .ref a0), (1, .int x1), (2, .int x2), (3, .int x3)] []) : xC d yX8_linkOf cX8_linkOf 5 (some .int) 0 0 [.ref a0, .int x1, .int x2, .int x3] μ ro Z :=
  xC_intro (own := RX8) (lv := [(0, .ref a0), (1, .int x1), (2, .int x2), (3, .int x3)]) (by decide) rfl (Nat.le_of_ble_eq_true rfl) rfl (fun J g hr => r_sub g (lv' := [(0, .ref a0), (1, .int x1), (2, .int x2), (3, .int x3)]) (⟨rfl, rfl, rfl, rfl, trivial⟩) (h J g hr))
theorem dX8_linksOf_0 : decode cX8_linksOf 0 = .ok (.iconst 0, 1) := by decide +kernel
theorem dX8_linksOf_1 : decode cX8_linksOf 1 = .ok (.istore_n 2, 1) := by decide +kernel
theorem dX8_linksOf_2 : decode cX8_linksOf 2 = .ok (.iconst 0, 1) := by decide +kernel
theorem dX8_linksOf_3 : decode cX8_linksOf 3 = .ok (.istore_n 3, 1) := by decide +kernel
theorem dX8_linksOf_4 : decode cX8_linksOf 4 = .ok (.iload_n 3, 1) := by decide +kernel
theorem dX8_linksOf_5 : decode cX8_linksOf 5 = .ok (.aload_n 0, 1) := by decide +kernel
theorem dX8_linksOf_6 : decode cX8_linksOf 6 = .ok (.getfield 11, 3) := by decide +kernel
theorem dX8_linksOf_9 : decode cX8_linksOf 9 = .ok (.iconst 1, 1) := by decide +kernel
theorem dX8_linksOf_10 : decode cX8_linksOf 10 = .ok (.iaload, 1) := by decide +kernel
theorem dX8_linksOf_11 : decode cX8_linksOf 11 = .ok (.if_icmp .ge 43, 3) := by decide +kernel
theorem dX8_linksOf_14 : decode cX8_linksOf 14 = .ok (.iload_n 2, 1) := by decide +kernel
theorem dX8_linksOf_15 : decode cX8_linksOf 15 = .ok (.aload_n 0, 1) := by decide +kernel
theorem dX8_linksOf_16 : decode cX8_linksOf 16 = .ok (.getfield 11, 3) := by decide +kernel
theorem dX8_linksOf_19 : decode cX8_linksOf 19 = .ok (.bipush 48, 2) := by decide +kernel
theorem dX8_linksOf_21 : decode cX8_linksOf 21 = .ok (.iload_n 3, 1) := by decide +kernel
theorem dX8_linksOf_22 : decode cX8_linksOf 22 = .ok (.iadd, 1) := by decide +kernel
theorem dX8_linksOf_23 : decode cX8_linksOf 23 = .ok (.iaload, 1) := by decide +kernel
theorem dX8_linksOf_24 : decode cX8_linksOf 24 = .ok (.iload_n 1, 1) := by decide +kernel
theorem dX8_linksOf_25 : decode cX8_linksOf 25 = .ok (.if_icmp .eq 16, 3) := by decide +kernel
theorem dX8_linksOf_28 : decode cX8_linksOf 28 = .ok (.aload_n 0, 1) := by decide +kernel
theorem dX8_linksOf_29 : decode cX8_linksOf 29 = .ok (.getfield 11, 3) := by decide +kernel
theorem dX8_linksOf_32 : decode cX8_linksOf 32 = .ok (.bipush 64, 2) := by decide +kernel
theorem dX8_linksOf_34 : decode cX8_linksOf 34 = .ok (.iload_n 3, 1) := by decide +kernel
theorem dX8_linksOf_35 : decode cX8_linksOf 35 = .ok (.iadd, 1) := by decide +kernel
theorem dX8_linksOf_36 : decode cX8_linksOf 36 = .ok (.iaload, 1) := by decide +kernel
theorem dX8_linksOf_37 : decode cX8_linksOf 37 = .ok (.iload_n 1, 1) := by decide +kernel
theorem dX8_linksOf_38 : decode cX8_linksOf 38 = .ok (.if_icmp .ne 7, 3) := by decide +kernel
theorem dX8_linksOf_41 : decode cX8_linksOf 41 = .ok (.iconst 1, 1) := by decide +kernel
theorem dX8_linksOf_42 : decode cX8_linksOf 42 = .ok (.goto 4, 3) := by decide +kernel
theorem dX8_linksOf_45 : decode cX8_linksOf 45 = .ok (.iconst 0, 1) := by decide +kernel
theorem dX8_linksOf_46 : decode cX8_linksOf 46 = .ok (.iadd, 1) := by decide +kernel
theorem dX8_linksOf_47 : decode cX8_linksOf 47 = .ok (.istore_n 2, 1) := by decide +kernel
theorem dX8_linksOf_48 : decode cX8_linksOf 48 = .ok (.iinc 3 1, 3) := by decide +kernel
theorem dX8_linksOf_51 : decode cX8_linksOf 51 = .ok (.goto (-47), 3) := by decide +kernel
theorem dX8_linksOf_54 : decode cX8_linksOf 54 = .ok (.iload_n 2, 1) := by decide +kernel
theorem dX8_linksOf_55 : decode cX8_linksOf 55 = .ok (.ireturn, 1) := by decide +kernel
set_option maxHeartbeats 4000000 in
set_option maxRecDepth 100000 in
theorem B_X8_linksOf_0 {d : Nat} {ro : Nat → Nat} {J : JT} {Z : Option Value → Hp → Prop} (g : xCtx RX8 cX8_linksOf 4 d 0 0 yX8_linksOf.name ro J) (hr : xRet cX8_linksOf (some .int) 0 0 Z J) {μ : Hp} {a0 : Nat} {x1 : Int32} 
    (h : J μ 0 0 4 [(0, .ref a0), (1, .int x1), (2, .int 0), (3, .int 0)] []) :
    J μ 0 0 0 [(0, .ref a0), (1, .int x1)] [] := by
  refine r_iconst g 0 dX8_linksOf_0 (by decide) ?_
  refine r_istore_n g [(2, .int 0), (0, .ref a0), (1, .int x1)] dX8_linksOf_1 (by decide) rfl ?_
  refine r_iconst g 0 dX8_linksOf_2 (by decide) ?_
  refine r_istore_n g [(3, .int 0), (2, .int 0), (0, .ref a0), (1, .int x1)] dX8_linksOf_3 (by decide) rfl ?_
  refine r_sub g (lv' := [(0, .ref a0), (1, .int x1), (2, .int 0), (3, .int 0)]) (⟨rfl, rfl, rfl, rfl, trivial⟩) ?_
  exact h
set_option maxHeartbeats 4000000 in
set_option maxRecDepth 100000 in
theorem B_X8_linksOf_4 {d : Nat} {ro : Nat → Nat} {J : JT} {Z : Option Value → Hp → Prop} (g : xCtx RX8 cX8_linksOf 4 d 0 0 yX8_linksOf.name ro J) (hr : xRet cX8_linksOf (some .int) 0 0 Z J) {μ : Hp} {a0 : Nat} {x1 : Int32} {x2 : Int32} {x3 : Int32} {a0_row : Nat} {N_a0_row : Nat} (hs_a0 : hS μ a0 = some (12, 4)) (hr_a0_row : hR μ a0 0 = some a0_row) (hs_a0_row : hS μ a0_row = some (0, N_a0_row))
    (h : vp_in 1 N_a0_row ∧ (((hI μ a0_row 1) ≤ x3 → Z (some (.int x2)) μ) ∧ (¬ (hI μ a0_row 1) ≤ x3 → vp_in (48 + x3) N_a0_row ∧ (((hI μ a0_row ((48 + x3).toNatClampNeg)) = x1 → J μ 0 0 4 [(0, .ref a0), (1, .int x1), (2, .int (x2 + 1)), (3, .int (x3 + 1))] []) ∧ (¬ (hI μ a0_row ((48 + x3).toNatClampNeg)) = x1 → vp_in (64 + x3) N_a0_row ∧ ((¬ (hI μ a0_row ((64 + x3).toNatClampNeg)) = x1 → J μ 0 0 4 [(0, .ref a0), (1, .int x1), (2, .int (x2 + 0)), (3, .int (x3 + 1))] []) ∧ ((hI μ a0_row ((64 + x3).toNatClampNeg)) = x1 → J μ 0 0 4 [(0, .ref a0), (1, .int x1), (2, .int (x2 + 1)), (3, .int (x3 + 1))] []))))))) :
    J μ 0 0 4 [(0, .ref a0), (1, .int x1), (2, .int x2), (3, .int x3)] [] := by
  refine r_iload_n g dX8_linksOf_4 rfl ?_
  refine r_aload_n g dX8_linksOf_5 rfl ?_
  refine r_getR g fX8_11 rfl hs_a0 hr_a0_row dX8_linksOf_6 ?_
  refine r_iconst g 1 dX8_linksOf_9 (by decide) ?_
  obtain ⟨hi1, h⟩ := h
  refine r_iaload g hs_a0_row hi1 dX8_linksOf_10 ?_
  refine r_icmp_ge g 54 dX8_linksOf_11 (by decide) (fun c2 => ?_) (fun c2 => ?_)
  · replace h := h.1 c2
    refine r_iload_n g dX8_linksOf_54 rfl ?_
    exact hr.2.1 _ rfl _ _ _ _ _ _ dX8_linksOf_55 rfl (Nat.le_refl 0) (Nat.le_refl 0) h
  · replace h := h.2 c2
    refine r_iload_n g dX8_linksOf_14 rfl ?_
    refine r_aload_n g dX8_linksOf_15 rfl ?_
    refine r_getR g fX8_11 rfl hs_a0 hr_a0_row dX8_linksOf_16 ?_
    refine r_bipush g 48 dX8_linksOf_19 (by decide) ?_
    refine r_iload_n g dX8_linksOf_21 rfl ?_
    refine r_iadd g dX8_linksOf_22 ?_
    obtain ⟨hi3, h⟩ := h
    refine r_iaload g hs_a0_row hi3 dX8_linksOf_23 ?_
    refine r_iload_n g dX8_linksOf_24 rfl ?_
    refine r_icmp_eq g 41 dX8_linksOf_25 (by decide) (fun c4 => ?_) (fun c4 => ?_)
    · replace h := h.1 c4
      refine r_iconst g 1 dX8_linksOf_41 (by decide) ?_
      refine r_goto g 46 dX8_linksOf_42 (by decide) ?_
      refine r_iadd g dX8_linksOf_46 ?_
      refine r_istore_n g [(2, .int (x2 + 1)), (0, .ref a0), (1, .int x1), (3, .int x3)] dX8_linksOf_47 (by decide) rfl ?_
      refine r_iinc g (x3 + 1) [(3, .int (x3 + 1)), (2, .int (x2 + 1)), (0, .ref a0), (1, .int x1)] dX8_linksOf_48 rfl rfl (by decide) rfl ?_
      refine r_goto g 4 dX8_linksOf_51 (by decide) ?_
      refine r_sub g (lv' := [(0, .ref a0), (1, .int x1), (2, .int (x2 + 1)), (3, .int (x3 + 1))]) (⟨rfl, rfl, rfl, rfl, trivial⟩) ?_
      exact h
    · replace h := h.2 c4
      refine r_aload_n g dX8_linksOf_28 rfl ?_
      refine r_getR g fX8_11 rfl hs_a0 hr_a0_row dX8_linksOf_29 ?_
      refine r_bipush g 64 dX8_linksOf_32 (by decide) ?_
      refine r_iload_n g dX8_linksOf_34 rfl ?_
      refine r_iadd g dX8_linksOf_35 ?_
      obtain ⟨hi5, h⟩ := h
      refine r_iaload g hs_a0_row hi5 dX8_linksOf_36 ?_
      refine r_iload_n g dX8_linksOf_37 rfl ?_
      refine r_icmp_ne g 45 dX8_linksOf_38 (by decide) (fun c6 => ?_) (fun c6 => ?_)
      · replace h := h.1 c6
        refine r_iconst g 0 dX8_linksOf_45 (by decide) ?_
        refine r_iadd g dX8_linksOf_46 ?_
        refine r_istore_n g [(2, .int (x2 + 0)), (0, .ref a0), (1, .int x1), (3, .int x3)] dX8_linksOf_47 (by decide) rfl ?_
        refine r_iinc g (x3 + 1) [(3, .int (x3 + 1)), (2, .int (x2 + 0)), (0, .ref a0), (1, .int x1)] dX8_linksOf_48 rfl rfl (by decide) rfl ?_
        refine r_goto g 4 dX8_linksOf_51 (by decide) ?_
        refine r_sub g (lv' := [(0, .ref a0), (1, .int x1), (2, .int (x2 + 0)), (3, .int (x3 + 1))]) (⟨rfl, rfl, rfl, rfl, trivial⟩) ?_
        exact h
      · replace h := h.2 c6
        refine r_iconst g 1 dX8_linksOf_41 (by decide) ?_
        refine r_goto g 46 dX8_linksOf_42 (by decide) ?_
        refine r_iadd g dX8_linksOf_46 ?_
        refine r_istore_n g [(2, .int (x2 + 1)), (0, .ref a0), (1, .int x1), (3, .int x3)] dX8_linksOf_47 (by decide) rfl ?_
        refine r_iinc g (x3 + 1) [(3, .int (x3 + 1)), (2, .int (x2 + 1)), (0, .ref a0), (1, .int x1)] dX8_linksOf_48 rfl rfl (by decide) rfl ?_
        refine r_goto g 4 dX8_linksOf_51 (by decide) ?_
        refine r_sub g (lv' := [(0, .ref a0), (1, .int x1), (2, .int (x2 + 1)), (3, .int (x3 + 1))]) (⟨rfl, rfl, rfl, rfl, trivial⟩) ?_
        exact h
theorem I_X8_linksOf {d : Nat} {ro : Nat → Nat} {Z : Option Value → Hp → Prop} {μ : Hp} {a0 : Nat} {x1 : Int32} (h : ∀ J, xCtx RX8 cX8_linksOf 4 d 0 0 yX8_linksOf.name ro J → xRet cX8_linksOf (some .int) 0 0 Z J → J μ 0 0 0 [(0, .ref a0), (1, .int x1)] []) : xC d yX8_linksOf cX8_linksOf 4 (some .int) 0 0 [.ref a0, .int x1] μ ro Z :=
  xC_intro (own := RX8) (lv := [(0, .ref a0), (1, .int x1)]) (by decide) rfl (Nat.le_of_ble_eq_true rfl) rfl (fun J g hr => r_sub g (lv' := [(0, .ref a0), (1, .int x1)]) (⟨rfl, rfl, trivial⟩) (h J g hr))
theorem dX8_laterLinks_0 : decode cX8_laterLinks 0 = .ok (.iconst 0, 1) := by decide +kernel
theorem dX8_laterLinks_1 : decode cX8_laterLinks 1 = .ok (.istore_n 1, 1) := by decide +kernel
theorem dX8_laterLinks_2 : decode cX8_laterLinks 2 = .ok (.iconst 0, 1) := by decide +kernel
theorem dX8_laterLinks_3 : decode cX8_laterLinks 3 = .ok (.istore_n 2, 1) := by decide +kernel
theorem dX8_laterLinks_4 : decode cX8_laterLinks 4 = .ok (.iload_n 2, 1) := by decide +kernel
theorem dX8_laterLinks_5 : decode cX8_laterLinks 5 = .ok (.aload_n 0, 1) := by decide +kernel
theorem dX8_laterLinks_6 : decode cX8_laterLinks 6 = .ok (.getfield 11, 3) := by decide +kernel
theorem dX8_laterLinks_9 : decode cX8_laterLinks 9 = .ok (.iconst 1, 1) := by decide +kernel
theorem dX8_laterLinks_10 : decode cX8_laterLinks 10 = .ok (.iaload, 1) := by decide +kernel
theorem dX8_laterLinks_11 : decode cX8_laterLinks 11 = .ok (.if_icmp .ge 35, 3) := by decide +kernel
theorem dX8_laterLinks_14 : decode cX8_laterLinks 14 = .ok (.iload_n 1, 1) := by decide +kernel
theorem dX8_laterLinks_15 : decode cX8_laterLinks 15 = .ok (.aload_n 0, 1) := by decide +kernel
theorem dX8_laterLinks_16 : decode cX8_laterLinks 16 = .ok (.getfield 11, 3) := by decide +kernel
theorem dX8_laterLinks_19 : decode cX8_laterLinks 19 = .ok (.bipush 96, 2) := by decide +kernel
theorem dX8_laterLinks_21 : decode cX8_laterLinks 21 = .ok (.iload_n 2, 1) := by decide +kernel
theorem dX8_laterLinks_22 : decode cX8_laterLinks 22 = .ok (.iadd, 1) := by decide +kernel
theorem dX8_laterLinks_23 : decode cX8_laterLinks 23 = .ok (.iaload, 1) := by decide +kernel
theorem dX8_laterLinks_24 : decode cX8_laterLinks 24 = .ok (.aload_n 0, 1) := by decide +kernel
theorem dX8_laterLinks_25 : decode cX8_laterLinks 25 = .ok (.getfield 11, 3) := by decide +kernel
theorem dX8_laterLinks_28 : decode cX8_laterLinks 28 = .ok (.iconst 0, 1) := by decide +kernel
theorem dX8_laterLinks_29 : decode cX8_laterLinks 29 = .ok (.iaload, 1) := by decide +kernel
theorem dX8_laterLinks_30 : decode cX8_laterLinks 30 = .ok (.if_icmp .le 7, 3) := by decide +kernel
theorem dX8_laterLinks_33 : decode cX8_laterLinks 33 = .ok (.iconst 1, 1) := by decide +kernel
theorem dX8_laterLinks_34 : decode cX8_laterLinks 34 = .ok (.goto 4, 3) := by decide +kernel
theorem dX8_laterLinks_37 : decode cX8_laterLinks 37 = .ok (.iconst 0, 1) := by decide +kernel
theorem dX8_laterLinks_38 : decode cX8_laterLinks 38 = .ok (.iadd, 1) := by decide +kernel
theorem dX8_laterLinks_39 : decode cX8_laterLinks 39 = .ok (.istore_n 1, 1) := by decide +kernel
theorem dX8_laterLinks_40 : decode cX8_laterLinks 40 = .ok (.iinc 2 1, 3) := by decide +kernel
theorem dX8_laterLinks_43 : decode cX8_laterLinks 43 = .ok (.goto (-39), 3) := by decide +kernel
theorem dX8_laterLinks_46 : decode cX8_laterLinks 46 = .ok (.iload_n 1, 1) := by decide +kernel
theorem dX8_laterLinks_47 : decode cX8_laterLinks 47 = .ok (.ireturn, 1) := by decide +kernel
set_option maxHeartbeats 4000000 in
set_option maxRecDepth 100000 in
theorem B_X8_laterLinks_0 {d : Nat} {ro : Nat → Nat} {J : JT} {Z : Option Value → Hp → Prop} (g : xCtx RX8 cX8_laterLinks 3 d 0 0 yX8_laterLinks.name ro J) (hr : xRet cX8_laterLinks (some .int) 0 0 Z J) {μ : Hp} {a0 : Nat} 
    (h : J μ 0 0 4 [(0, .ref a0), (1, .int 0), (2, .int 0)] []) :
    J μ 0 0 0 [(0, .ref a0)] [] := by
  refine r_iconst g 0 dX8_laterLinks_0 (by decide) ?_
  refine r_istore_n g [(1, .int 0), (0, .ref a0)] dX8_laterLinks_1 (by decide) rfl ?_
  refine r_iconst g 0 dX8_laterLinks_2 (by decide) ?_
  refine r_istore_n g [(2, .int 0), (1, .int 0), (0, .ref a0)] dX8_laterLinks_3 (by decide) rfl ?_
  refine r_sub g (lv' := [(0, .ref a0), (1, .int 0), (2, .int 0)]) (⟨rfl, rfl, rfl, trivial⟩) ?_
  exact h
set_option maxHeartbeats 4000000 in
set_option maxRecDepth 100000 in
theorem B_X8_laterLinks_4 {d : Nat} {ro : Nat → Nat} {J : JT} {Z : Option Value → Hp → Prop} (g : xCtx RX8 cX8_laterLinks 3 d 0 0 yX8_laterLinks.name ro J) (hr : xRet cX8_laterLinks (some .int) 0 0 Z J) {μ : Hp} {a0 : Nat} {x1 : Int32} {x2 : Int32} {a0_row : Nat} {N_a0_row : Nat} (hs_a0 : hS μ a0 = some (12, 4)) (hr_a0_row : hR μ a0 0 = some a0_row) (hs_a0_row : hS μ a0_row = some (0, N_a0_row))
    (h : vp_in 1 N_a0_row ∧ (((hI μ a0_row 1) ≤ x2 → Z (some (.int x1)) μ) ∧ (¬ (hI μ a0_row 1) ≤ x2 → vp_in (96 + x2) N_a0_row ∧ vp_in 0 N_a0_row ∧ (((hI μ a0_row ((96 + x2).toNatClampNeg)) ≤ (hI μ a0_row 0) → J μ 0 0 4 [(0, .ref a0), (1, .int (x1 + 0)), (2, .int (x2 + 1))] []) ∧ (¬ (hI μ a0_row ((96 + x2).toNatClampNeg)) ≤ (hI μ a0_row 0) → J μ 0 0 4 [(0, .ref a0), (1, .int (x1 + 1)), (2, .int (x2 + 1))] []))))) :
    J μ 0 0 4 [(0, .ref a0), (1, .int x1), (2, .int x2)] [] := by
  refine r_iload_n g dX8_laterLinks_4 rfl ?_
  refine r_aload_n g dX8_laterLinks_5 rfl ?_
  refine r_getR g fX8_11 rfl hs_a0 hr_a0_row dX8_laterLinks_6 ?_
  refine r_iconst g 1 dX8_laterLinks_9 (by decide) ?_
  obtain ⟨hi1, h⟩ := h
  refine r_iaload g hs_a0_row hi1 dX8_laterLinks_10 ?_
  refine r_icmp_ge g 46 dX8_laterLinks_11 (by decide) (fun c2 => ?_) (fun c2 => ?_)
  · replace h := h.1 c2
    refine r_iload_n g dX8_laterLinks_46 rfl ?_
    exact hr.2.1 _ rfl _ _ _ _ _ _ dX8_laterLinks_47 rfl (Nat.le_refl 0) (Nat.le_refl 0) h
  · replace h := h.2 c2
    refine r_iload_n g dX8_laterLinks_14 rfl ?_
    refine r_aload_n g dX8_laterLinks_15 rfl ?_
    refine r_getR g fX8_11 rfl hs_a0 hr_a0_row dX8_laterLinks_16 ?_
    refine r_bipush g 96 dX8_laterLinks_19 (by decide) ?_
    refine r_iload_n g dX8_laterLinks_21 rfl ?_
    refine r_iadd g dX8_laterLinks_22 ?_
    obtain ⟨hi3, h⟩ := h
    refine r_iaload g hs_a0_row hi3 dX8_laterLinks_23 ?_
    refine r_aload_n g dX8_laterLinks_24 rfl ?_
    refine r_getR g fX8_11 rfl hs_a0 hr_a0_row dX8_laterLinks_25 ?_
    refine r_iconst g 0 dX8_laterLinks_28 (by decide) ?_
    obtain ⟨hi4, h⟩ := h
    refine r_iaload g hs_a0_row hi4 dX8_laterLinks_29 ?_
    refine r_icmp_le g 37 dX8_laterLinks_30 (by decide) (fun c5 => ?_) (fun c5 => ?_)
    · replace h := h.1 c5
      refine r_iconst g 0 dX8_laterLinks_37 (by decide) ?_
      refine r_iadd g dX8_laterLinks_38 ?_
      refine r_istore_n g [(1, .int (x1 + 0)), (0, .ref a0), (2, .int x2)] dX8_laterLinks_39 (by decide) rfl ?_
      refine r_iinc g (x2 + 1) [(2, .int (x2 + 1)), (1, .int (x1 + 0)), (0, .ref a0)] dX8_laterLinks_40 rfl rfl (by decide) rfl ?_
      refine r_goto g 4 dX8_laterLinks_43 (by decide) ?_
      refine r_sub g (lv' := [(0, .ref a0), (1, .int (x1 + 0)), (2, .int (x2 + 1))]) (⟨rfl, rfl, rfl, trivial⟩) ?_
      exact h
    · replace h := h.2 c5
      refine r_iconst g 1 dX8_laterLinks_33 (by decide) ?_
      refine r_goto g 38 dX8_laterLinks_34 (by decide) ?_
      refine r_iadd g dX8_laterLinks_38 ?_
      refine r_istore_n g [(1, .int (x1 + 1)), (0, .ref a0), (2, .int x2)] dX8_laterLinks_39 (by decide) rfl ?_
      refine r_iinc g (x2 + 1) [(2, .int (x2 + 1)), (1, .int (x1 + 1)), (0, .ref a0)] dX8_laterLinks_40 rfl rfl (by decide) rfl ?_
      refine r_goto g 4 dX8_laterLinks_43 (by decide) ?_
      refine r_sub g (lv' := [(0, .ref a0), (1, .int (x1 + 1)), (2, .int (x2 + 1))]) (⟨rfl, rfl, rfl, trivial⟩) ?_
      exact h
theorem I_X8_laterLinks {d : Nat} {ro : Nat → Nat} {Z : Option Value → Hp → Prop} {μ : Hp} {a0 : Nat} (h : ∀ J, xCtx RX8 cX8_laterLinks 3 d 0 0 yX8_laterLinks.name ro J → xRet cX8_laterLinks (some .int) 0 0 Z J → J μ 0 0 0 [(0, .ref a0)] []) : xC d yX8_laterLinks cX8_laterLinks 3 (some .int) 0 0 [.ref a0] μ ro Z :=
  xC_intro (own := RX8) (lv := [(0, .ref a0)]) (by decide) rfl (Nat.le_of_ble_eq_true rfl) rfl (fun J g hr => r_sub g (lv' := [(0, .ref a0)]) (⟨rfl, trivial⟩) (h J g hr))
theorem dX8_addLink_0 : decode cX8_addLink 0 = .ok (.aload_n 0, 1) := by decide +kernel
theorem dX8_addLink_1 : decode cX8_addLink 1 = .ok (.getfield 11, 3) := by decide +kernel
theorem dX8_addLink_4 : decode cX8_addLink 4 = .ok (.iconst 1, 1) := by decide +kernel
theorem dX8_addLink_5 : decode cX8_addLink 5 = .ok (.iaload, 1) := by decide +kernel
theorem dX8_addLink_6 : decode cX8_addLink 6 = .ok (.istore 6, 2) := by decide +kernel
theorem dX8_addLink_8 : decode cX8_addLink 8 = .ok (.iload 6, 2) := by decide +kernel
theorem dX8_addLink_10 : decode cX8_addLink 10 = .ok (.bipush 16, 2) := by decide +kernel
theorem dX8_addLink_12 : decode cX8_addLink 12 = .ok (.if_icmp .lt 4, 3) := by decide +kernel
theorem dX8_addLink_15 : decode cX8_addLink 15 = .ok (.return_, 1) := by decide +kernel
theorem dX8_addLink_16 : decode cX8_addLink 16 = .ok (.aload_n 0, 1) := by decide +kernel
theorem dX8_addLink_17 : decode cX8_addLink 17 = .ok (.getfield 11, 3) := by decide +kernel
theorem dX8_addLink_20 : decode cX8_addLink 20 = .ok (.bipush 32, 2) := by decide +kernel
theorem dX8_addLink_22 : decode cX8_addLink 22 = .ok (.iload 6, 2) := by decide +kernel
theorem dX8_addLink_24 : decode cX8_addLink 24 = .ok (.iadd, 1) := by decide +kernel
theorem dX8_addLink_25 : decode cX8_addLink 25 = .ok (.iload_n 1, 1) := by decide +kernel
theorem dX8_addLink_26 : decode cX8_addLink 26 = .ok (.iastore, 1) := by decide +kernel
theorem dX8_addLink_27 : decode cX8_addLink 27 = .ok (.aload_n 0, 1) := by decide +kernel
theorem dX8_addLink_28 : decode cX8_addLink 28 = .ok (.getfield 11, 3) := by decide +kernel
theorem dX8_addLink_31 : decode cX8_addLink 31 = .ok (.bipush 48, 2) := by decide +kernel
theorem dX8_addLink_33 : decode cX8_addLink 33 = .ok (.iload 6, 2) := by decide +kernel
theorem dX8_addLink_35 : decode cX8_addLink 35 = .ok (.iadd, 1) := by decide +kernel
theorem dX8_addLink_36 : decode cX8_addLink 36 = .ok (.iload_n 2, 1) := by decide +kernel
theorem dX8_addLink_37 : decode cX8_addLink 37 = .ok (.iastore, 1) := by decide +kernel
theorem dX8_addLink_38 : decode cX8_addLink 38 = .ok (.aload_n 0, 1) := by decide +kernel
theorem dX8_addLink_39 : decode cX8_addLink 39 = .ok (.getfield 11, 3) := by decide +kernel
theorem dX8_addLink_42 : decode cX8_addLink 42 = .ok (.bipush 64, 2) := by decide +kernel
theorem dX8_addLink_44 : decode cX8_addLink 44 = .ok (.iload 6, 2) := by decide +kernel
theorem dX8_addLink_46 : decode cX8_addLink 46 = .ok (.iadd, 1) := by decide +kernel
theorem dX8_addLink_47 : decode cX8_addLink 47 = .ok (.iload_n 3, 1) := by decide +kernel
theorem dX8_addLink_48 : decode cX8_addLink 48 = .ok (.iastore, 1) := by decide +kernel
theorem dX8_addLink_49 : decode cX8_addLink 49 = .ok (.aload_n 0, 1) := by decide +kernel
theorem dX8_addLink_50 : decode cX8_addLink 50 = .ok (.getfield 11, 3) := by decide +kernel
theorem dX8_addLink_53 : decode cX8_addLink 53 = .ok (.bipush 80, 2) := by decide +kernel
theorem dX8_addLink_55 : decode cX8_addLink 55 = .ok (.iload 6, 2) := by decide +kernel
theorem dX8_addLink_57 : decode cX8_addLink 57 = .ok (.iadd, 1) := by decide +kernel
theorem dX8_addLink_58 : decode cX8_addLink 58 = .ok (.iload 4, 2) := by decide +kernel
theorem dX8_addLink_60 : decode cX8_addLink 60 = .ok (.iastore, 1) := by decide +kernel
theorem dX8_addLink_61 : decode cX8_addLink 61 = .ok (.aload_n 0, 1) := by decide +kernel
theorem dX8_addLink_62 : decode cX8_addLink 62 = .ok (.getfield 11, 3) := by decide +kernel
theorem dX8_addLink_65 : decode cX8_addLink 65 = .ok (.bipush 96, 2) := by decide +kernel
theorem dX8_addLink_67 : decode cX8_addLink 67 = .ok (.iload 6, 2) := by decide +kernel
theorem dX8_addLink_69 : decode cX8_addLink 69 = .ok (.iadd, 1) := by decide +kernel
theorem dX8_addLink_70 : decode cX8_addLink 70 = .ok (.iload 5, 2) := by decide +kernel
theorem dX8_addLink_72 : decode cX8_addLink 72 = .ok (.iastore, 1) := by decide +kernel
theorem dX8_addLink_73 : decode cX8_addLink 73 = .ok (.aload_n 0, 1) := by decide +kernel
theorem dX8_addLink_74 : decode cX8_addLink 74 = .ok (.getfield 11, 3) := by decide +kernel
theorem dX8_addLink_77 : decode cX8_addLink 77 = .ok (.iconst 1, 1) := by decide +kernel
theorem dX8_addLink_78 : decode cX8_addLink 78 = .ok (.iload 6, 2) := by decide +kernel
theorem dX8_addLink_80 : decode cX8_addLink 80 = .ok (.iconst 1, 1) := by decide +kernel
theorem dX8_addLink_81 : decode cX8_addLink 81 = .ok (.iadd, 1) := by decide +kernel
theorem dX8_addLink_82 : decode cX8_addLink 82 = .ok (.iastore, 1) := by decide +kernel
theorem dX8_addLink_83 : decode cX8_addLink 83 = .ok (.return_, 1) := by decide +kernel
set_option maxHeartbeats 4000000 in
set_option maxRecDepth 100000 in
theorem B_X8_addLink_0 {d : Nat} {ro : Nat → Nat} {J : JT} {Z : Option Value → Hp → Prop} (g : xCtx RX8 cX8_addLink 7 d 0 0 yX8_addLink.name ro J) (hr : xRet cX8_addLink none 0 0 Z J) {μ : Hp} {a0 : Nat} {x1 : Int32} {x2 : Int32} {x3 : Int32} {x4 : Int32} {x5 : Int32} {a0_row : Nat} {N_a0_row : Nat} (hs_a0 : hS μ a0 = some (12, 4)) (hr_a0_row : hR μ a0 0 = some a0_row) (hs_a0_row : hS μ a0_row = some (0, N_a0_row))
    (h : vp_in 1 N_a0_row ∧ (((hI μ a0_row 1) < 16 → vp_in (32 + (hI μ a0_row 1)) N_a0_row ∧ vp_in (48 + (hI μ a0_row 1)) N_a0_row ∧ vp_in (64 + (hI μ a0_row 1)) N_a0_row ∧ vp_in (80 + (hI μ a0_row 1)) N_a0_row ∧ vp_in (96 + (hI μ a0_row 1)) N_a0_row ∧ Z none (wI (wI (wI (wI (wI (wI μ a0_row ((32 + (hI μ a0_row 1)).toNatClampNeg) x1) a0_row ((48 + (hI μ a0_row 1)).toNatClampNeg) x2) a0_row ((64 + (hI μ a0_row 1)).toNatClampNeg) x3) a0_row ((80 + (hI μ a0_row 1)).toNatClampNeg) x4) a0_row ((96 + (hI μ a0_row 1)).toNatClampNeg) x5) a0_row 1 ((hI μ a0_row 1) + 1))) ∧ (¬ (hI μ a0_row 1) < 16 → Z none μ))) :
    J μ 0 0 0 [(0, .ref a0), (1, .int x1), (2, .int x2), (3, .int x3), (4, .int x4), (5, .int x5)] [] := by
  refine r_aload_n g dX8_addLink_0 rfl ?_
  refine r_getR g fX8_11 rfl hs_a0 hr_a0_row dX8_addLink_1 ?_
  refine r_iconst g 1 dX8_addLink_4 (by decide) ?_
  obtain ⟨hi1, h⟩ := h
  refine r_iaload g hs_a0_row hi1 dX8_addLink_5 ?_
  refine r_istore g [(6, .int (hI μ a0_row 1)), (0, .ref a0), (1, .int x1), (2, .int x2), (3, .int x3), (4, .int x4), (5, .int x5)] dX8_addLink_6 (by decide) rfl ?_
  refine r_iload g dX8_addLink_8 rfl ?_
  refine r_bipush g 16 dX8_addLink_10 (by decide) ?_
  refine r_icmp_lt g 16 dX8_addLink_12 (by decide) (fun c2 => ?_) (fun c2 => ?_)
  · replace h := h.1 c2
    refine r_aload_n g dX8_addLink_16 rfl ?_
    refine r_getR g fX8_11 rfl hs_a0 hr_a0_row dX8_addLink_17 ?_
    refine r_bipush g 32 dX8_addLink_20 (by decide) ?_
    refine r_iload g dX8_addLink_22 rfl ?_
    refine r_iadd g dX8_addLink_24 ?_
    refine r_iload_n g dX8_addLink_25 rfl ?_
    obtain ⟨hi3, h⟩ := h
    refine r_iastore g hs_a0_row hi3 dX8_addLink_26 ?_
    refine r_aload_n g dX8_addLink_27 rfl ?_
    refine r_getR g fX8_11 rfl hs_a0 hr_a0_row dX8_addLink_28 ?_
    refine r_bipush g 48 dX8_addLink_31 (by decide) ?_
    refine r_iload g dX8_addLink_33 rfl ?_
    refine r_iadd g dX8_addLink_35 ?_
    refine r_iload_n g dX8_addLink_36 rfl ?_
    obtain ⟨hi4, h⟩ := h
    refine r_iastore g hs_a0_row hi4 dX8_addLink_37 ?_
    refine r_aload_n g dX8_addLink_38 rfl ?_
    refine r_getR g fX8_11 rfl hs_a0 hr_a0_row dX8_addLink_39 ?_
    refine r_bipush g 64 dX8_addLink_42 (by decide) ?_
    refine r_iload g dX8_addLink_44 rfl ?_
    refine r_iadd g dX8_addLink_46 ?_
    refine r_iload_n g dX8_addLink_47 rfl ?_
    obtain ⟨hi5, h⟩ := h
    refine r_iastore g hs_a0_row hi5 dX8_addLink_48 ?_
    refine r_aload_n g dX8_addLink_49 rfl ?_
    refine r_getR g fX8_11 rfl hs_a0 hr_a0_row dX8_addLink_50 ?_
    refine r_bipush g 80 dX8_addLink_53 (by decide) ?_
    refine r_iload g dX8_addLink_55 rfl ?_
    refine r_iadd g dX8_addLink_57 ?_
    refine r_iload g dX8_addLink_58 rfl ?_
    obtain ⟨hi6, h⟩ := h
    refine r_iastore g hs_a0_row hi6 dX8_addLink_60 ?_
    refine r_aload_n g dX8_addLink_61 rfl ?_
    refine r_getR g fX8_11 rfl hs_a0 hr_a0_row dX8_addLink_62 ?_
    refine r_bipush g 96 dX8_addLink_65 (by decide) ?_
    refine r_iload g dX8_addLink_67 rfl ?_
    refine r_iadd g dX8_addLink_69 ?_
    refine r_iload g dX8_addLink_70 rfl ?_
    obtain ⟨hi7, h⟩ := h
    refine r_iastore g hs_a0_row hi7 dX8_addLink_72 ?_
    refine r_aload_n g dX8_addLink_73 rfl ?_
    refine r_getR g fX8_11 rfl hs_a0 hr_a0_row dX8_addLink_74 ?_
    refine r_iconst g 1 dX8_addLink_77 (by decide) ?_
    refine r_iload g dX8_addLink_78 rfl ?_
    refine r_iconst g 1 dX8_addLink_80 (by decide) ?_
    refine r_iadd g dX8_addLink_81 ?_
    refine r_iastore g hs_a0_row hi1 dX8_addLink_82 ?_
    exact hr.1 rfl _ _ _ _ _ dX8_addLink_83 (Nat.le_refl 0) (Nat.le_refl 0) h
  · replace h := h.2 c2
    exact hr.1 rfl _ _ _ _ _ dX8_addLink_15 (Nat.le_refl 0) (Nat.le_refl 0) h
theorem I_X8_addLink {d : Nat} {ro : Nat → Nat} {Z : Option Value → Hp → Prop} {μ : Hp} {a0 : Nat} {x1 : Int32} {x2 : Int32} {x3 : Int32} {x4 : Int32} {x5 : Int32} (h : ∀ J, xCtx RX8 cX8_addLink 7 d 0 0 yX8_addLink.name ro J → xRet cX8_addLink none 0 0 Z J → J μ 0 0 0 [(0, .ref a0), (1, .int x1), (2, .int x2), (3, .int x3), (4, .int x4), (5, .int x5)] []) : xC d yX8_addLink cX8_addLink 7 none 0 0 [.ref a0, .int x1, .int x2, .int x3, .int x4, .int x5] μ ro Z :=
  xC_intro (own := RX8) (lv := [(0, .ref a0), (1, .int x1), (2, .int x2), (3, .int x3), (4, .int x4), (5, .int x5)]) (by decide) rfl (Nat.le_of_ble_eq_true rfl) rfl (fun J g hr => r_sub g (lv' := [(0, .ref a0), (1, .int x1), (2, .int x2), (3, .int x3), (4, .int x4), (5, .int x5)]) (⟨rfl, rfl, rfl, rfl, rfl, rfl, trivial⟩) (h J g hr))
theorem dX8_removeLink_0 : decode cX8_removeLink 0 = .ok (.aload_n 0, 1) := by decide +kernel
theorem dX8_removeLink_1 : decode cX8_removeLink 1 = .ok (.iload_n 1, 1) := by decide +kernel
theorem dX8_removeLink_2 : decode cX8_removeLink 2 = .ok (.invokevirtual 36, 3) := by decide +kernel
theorem dX8_removeLink_5 : decode cX8_removeLink 5 = .ok (.ifCond .ne 4, 3) := by decide +kernel
theorem dX8_removeLink_8 : decode cX8_removeLink 8 = .ok (.return_, 1) := by decide +kernel
theorem dX8_removeLink_9 : decode cX8_removeLink 9 = .ok (.iload_n 1, 1) := by decide +kernel
theorem dX8_removeLink_10 : decode cX8_removeLink 10 = .ok (.istore_n 2, 1) := by decide +kernel
theorem dX8_removeLink_11 : decode cX8_removeLink 11 = .ok (.iload_n 2, 1) := by decide +kernel
theorem dX8_removeLink_12 : decode cX8_removeLink 12 = .ok (.iconst 1, 1) := by decide +kernel
theorem dX8_removeLink_13 : decode cX8_removeLink 13 = .ok (.iadd, 1) := by decide +kernel
theorem dX8_removeLink_14 : decode cX8_removeLink 14 = .ok (.aload_n 0, 1) := by decide +kernel
theorem dX8_removeLink_15 : decode cX8_removeLink 15 = .ok (.getfield 11, 3) := by decide +kernel
theorem dX8_removeLink_18 : decode cX8_removeLink 18 = .ok (.iconst 1, 1) := by decide +kernel
theorem dX8_removeLink_19 : decode cX8_removeLink 19 = .ok (.iaload, 1) := by decide +kernel
theorem dX8_removeLink_20 : decode cX8_removeLink 20 = .ok (.if_icmp .ge 109, 3) := by decide +kernel
theorem dX8_removeLink_23 : decode cX8_removeLink 23 = .ok (.aload_n 0, 1) := by decide +kernel
theorem dX8_removeLink_24 : decode cX8_removeLink 24 = .ok (.getfield 11, 3) := by decide +kernel
theorem dX8_removeLink_27 : decode cX8_removeLink 27 = .ok (.bipush 32, 2) := by decide +kernel
theorem dX8_removeLink_29 : decode cX8_removeLink 29 = .ok (.iload_n 2, 1) := by decide +kernel
theorem dX8_removeLink_30 : decode cX8_removeLink 30 = .ok (.iadd, 1) := by decide +kernel
theorem dX8_removeLink_31 : decode cX8_removeLink 31 = .ok (.aload_n 0, 1) := by decide +kernel
theorem dX8_removeLink_32 : decode cX8_removeLink 32 = .ok (.getfield 11, 3) := by decide +kernel
theorem dX8_removeLink_35 : decode cX8_removeLink 35 = .ok (.bipush 32, 2) := by decide +kernel
theorem dX8_removeLink_37 : decode cX8_removeLink 37 = .ok (.iload_n 2, 1) := by decide +kernel
theorem dX8_removeLink_38 : decode cX8_removeLink 38 = .ok (.iadd, 1) := by decide +kernel
theorem dX8_removeLink_39 : decode cX8_removeLink 39 = .ok (.iconst 1, 1) := by decide +kernel
theorem dX8_removeLink_40 : decode cX8_removeLink 40 = .ok (.iadd, 1) := by decide +kernel
theorem dX8_removeLink_41 : decode cX8_removeLink 41 = .ok (.iaload, 1) := by decide +kernel
theorem dX8_removeLink_42 : decode cX8_removeLink 42 = .ok (.iastore, 1) := by decide +kernel
theorem dX8_removeLink_43 : decode cX8_removeLink 43 = .ok (.aload_n 0, 1) := by decide +kernel
theorem dX8_removeLink_44 : decode cX8_removeLink 44 = .ok (.getfield 11, 3) := by decide +kernel
theorem dX8_removeLink_47 : decode cX8_removeLink 47 = .ok (.bipush 48, 2) := by decide +kernel
theorem dX8_removeLink_49 : decode cX8_removeLink 49 = .ok (.iload_n 2, 1) := by decide +kernel
theorem dX8_removeLink_50 : decode cX8_removeLink 50 = .ok (.iadd, 1) := by decide +kernel
theorem dX8_removeLink_51 : decode cX8_removeLink 51 = .ok (.aload_n 0, 1) := by decide +kernel
theorem dX8_removeLink_52 : decode cX8_removeLink 52 = .ok (.getfield 11, 3) := by decide +kernel
theorem dX8_removeLink_55 : decode cX8_removeLink 55 = .ok (.bipush 48, 2) := by decide +kernel
theorem dX8_removeLink_57 : decode cX8_removeLink 57 = .ok (.iload_n 2, 1) := by decide +kernel
theorem dX8_removeLink_58 : decode cX8_removeLink 58 = .ok (.iadd, 1) := by decide +kernel
theorem dX8_removeLink_59 : decode cX8_removeLink 59 = .ok (.iconst 1, 1) := by decide +kernel
theorem dX8_removeLink_60 : decode cX8_removeLink 60 = .ok (.iadd, 1) := by decide +kernel
theorem dX8_removeLink_61 : decode cX8_removeLink 61 = .ok (.iaload, 1) := by decide +kernel
theorem dX8_removeLink_62 : decode cX8_removeLink 62 = .ok (.iastore, 1) := by decide +kernel
theorem dX8_removeLink_63 : decode cX8_removeLink 63 = .ok (.aload_n 0, 1) := by decide +kernel
theorem dX8_removeLink_64 : decode cX8_removeLink 64 = .ok (.getfield 11, 3) := by decide +kernel
theorem dX8_removeLink_67 : decode cX8_removeLink 67 = .ok (.bipush 64, 2) := by decide +kernel
theorem dX8_removeLink_69 : decode cX8_removeLink 69 = .ok (.iload_n 2, 1) := by decide +kernel
theorem dX8_removeLink_70 : decode cX8_removeLink 70 = .ok (.iadd, 1) := by decide +kernel
theorem dX8_removeLink_71 : decode cX8_removeLink 71 = .ok (.aload_n 0, 1) := by decide +kernel
theorem dX8_removeLink_72 : decode cX8_removeLink 72 = .ok (.getfield 11, 3) := by decide +kernel
theorem dX8_removeLink_75 : decode cX8_removeLink 75 = .ok (.bipush 64, 2) := by decide +kernel
theorem dX8_removeLink_77 : decode cX8_removeLink 77 = .ok (.iload_n 2, 1) := by decide +kernel
theorem dX8_removeLink_78 : decode cX8_removeLink 78 = .ok (.iadd, 1) := by decide +kernel
theorem dX8_removeLink_79 : decode cX8_removeLink 79 = .ok (.iconst 1, 1) := by decide +kernel
theorem dX8_removeLink_80 : decode cX8_removeLink 80 = .ok (.iadd, 1) := by decide +kernel
theorem dX8_removeLink_81 : decode cX8_removeLink 81 = .ok (.iaload, 1) := by decide +kernel
theorem dX8_removeLink_82 : decode cX8_removeLink 82 = .ok (.iastore, 1) := by decide +kernel
theorem dX8_removeLink_83 : decode cX8_removeLink 83 = .ok (.aload_n 0, 1) := by decide +kernel
theorem dX8_removeLink_84 : decode cX8_removeLink 84 = .ok (.getfield 11, 3) := by decide +kernel
theorem dX8_removeLink_87 : decode cX8_removeLink 87 = .ok (.bipush 80, 2) := by decide +kernel
theorem dX8_removeLink_89 : decode cX8_removeLink 89 = .ok (.iload_n 2, 1) := by decide +kernel
theorem dX8_removeLink_90 : decode cX8_removeLink 90 = .ok (.iadd, 1) := by decide +kernel
theorem dX8_removeLink_91 : decode cX8_removeLink 91 = .ok (.aload_n 0, 1) := by decide +kernel
theorem dX8_removeLink_92 : decode cX8_removeLink 92 = .ok (.getfield 11, 3) := by decide +kernel
theorem dX8_removeLink_95 : decode cX8_removeLink 95 = .ok (.bipush 80, 2) := by decide +kernel
theorem dX8_removeLink_97 : decode cX8_removeLink 97 = .ok (.iload_n 2, 1) := by decide +kernel
theorem dX8_removeLink_98 : decode cX8_removeLink 98 = .ok (.iadd, 1) := by decide +kernel
theorem dX8_removeLink_99 : decode cX8_removeLink 99 = .ok (.iconst 1, 1) := by decide +kernel
theorem dX8_removeLink_100 : decode cX8_removeLink 100 = .ok (.iadd, 1) := by decide +kernel
theorem dX8_removeLink_101 : decode cX8_removeLink 101 = .ok (.iaload, 1) := by decide +kernel
theorem dX8_removeLink_102 : decode cX8_removeLink 102 = .ok (.iastore, 1) := by decide +kernel
theorem dX8_removeLink_103 : decode cX8_removeLink 103 = .ok (.aload_n 0, 1) := by decide +kernel
theorem dX8_removeLink_104 : decode cX8_removeLink 104 = .ok (.getfield 11, 3) := by decide +kernel
theorem dX8_removeLink_107 : decode cX8_removeLink 107 = .ok (.bipush 96, 2) := by decide +kernel
theorem dX8_removeLink_109 : decode cX8_removeLink 109 = .ok (.iload_n 2, 1) := by decide +kernel
theorem dX8_removeLink_110 : decode cX8_removeLink 110 = .ok (.iadd, 1) := by decide +kernel
theorem dX8_removeLink_111 : decode cX8_removeLink 111 = .ok (.aload_n 0, 1) := by decide +kernel
theorem dX8_removeLink_112 : decode cX8_removeLink 112 = .ok (.getfield 11, 3) := by decide +kernel
theorem dX8_removeLink_115 : decode cX8_removeLink 115 = .ok (.bipush 96, 2) := by decide +kernel
theorem dX8_removeLink_117 : decode cX8_removeLink 117 = .ok (.iload_n 2, 1) := by decide +kernel
theorem dX8_removeLink_118 : decode cX8_removeLink 118 = .ok (.iadd, 1) := by decide +kernel
theorem dX8_removeLink_119 : decode cX8_removeLink 119 = .ok (.iconst 1, 1) := by decide +kernel
theorem dX8_removeLink_120 : decode cX8_removeLink 120 = .ok (.iadd, 1) := by decide +kernel
theorem dX8_removeLink_121 : decode cX8_removeLink 121 = .ok (.iaload, 1) := by decide +kernel
theorem dX8_removeLink_122 : decode cX8_removeLink 122 = .ok (.iastore, 1) := by decide +kernel
theorem dX8_removeLink_123 : decode cX8_removeLink 123 = .ok (.iinc 2 1, 3) := by decide +kernel
theorem dX8_removeLink_126 : decode cX8_removeLink 126 = .ok (.goto (-115), 3) := by decide +kernel
theorem dX8_removeLink_129 : decode cX8_removeLink 129 = .ok (.aload_n 0, 1) := by decide +kernel
theorem dX8_removeLink_130 : decode cX8_removeLink 130 = .ok (.getfield 11, 3) := by decide +kernel
theorem dX8_removeLink_133 : decode cX8_removeLink 133 = .ok (.iconst 1, 1) := by decide +kernel
theorem dX8_removeLink_134 : decode cX8_removeLink 134 = .ok (.dup2, 1) := by decide +kernel
theorem dX8_removeLink_135 : decode cX8_removeLink 135 = .ok (.iaload, 1) := by decide +kernel
theorem dX8_removeLink_136 : decode cX8_removeLink 136 = .ok (.iconst 1, 1) := by decide +kernel
theorem dX8_removeLink_137 : decode cX8_removeLink 137 = .ok (.isub, 1) := by decide +kernel
theorem dX8_removeLink_138 : decode cX8_removeLink 138 = .ok (.iastore, 1) := by decide +kernel
theorem dX8_removeLink_139 : decode cX8_removeLink 139 = .ok (.return_, 1) := by decide +kernel
set_option maxHeartbeats 4000000 in
set_option maxRecDepth 100000 in
theorem B_X8_removeLink_0 {d : Nat} {ro : Nat → Nat} {J : JT} {Z : Option Value → Hp → Prop} (g : xCtx RX8 cX8_removeLink 3 d 0 0 yX8_removeLink.name ro J) (hr : xRet cX8_removeLink none 0 0 Z J) {μ : Hp} {a0 : Nat} {x1 : Int32} {a0_row : Nat} {N_a0_row : Nat} (hs_a0 : hS μ a0 = some (12, 4)) (hr_a0_row : hR μ a0 0 = some a0_row) (hs_a0_row : hS μ a0_row = some (0, N_a0_row)) (hd9 : 1 ≤ d)
    (h : ((x1 < 0 → Z none μ) ∧ (¬ x1 < 0 → vp_in 1 N_a0_row ∧ (((hI μ a0_row 1) ≤ x1 → Z none μ) ∧ (¬ (hI μ a0_row 1) ≤ x1 → J μ 0 0 11 [(0, .ref a0), (2, .int x1)] []))))) :
    J μ 0 0 0 [(0, .ref a0), (1, .int x1)] [] := by
  refine r_aload_n g dX8_removeLink_0 rfl ?_
  refine r_iload_n g dX8_removeLink_1 rfl ?_
  by_cases c1 : x1 < 0
  · replace h := h.1 c1
    refine r_callV (st := []) (As := [.int x1]) g sX8_36 iX8_hasLink eX8_hasLink rfl hs_a0 rfl (Nat.le_of_ble_eq_true rfl) dX8_removeLink_2 (by omega) (Nat.le_refl 0) (Nat.le_refl 0) (P_X8_hasLink_0 (d := d - 1) hs_a0 hr_a0_row hs_a0_row c1) (fun r2 μ3 hZ1 => ?_)
    obtain ⟨rfl, e9⟩ := hZ1
    replace e9 := e9.symm
    subst e9
    refine r_if_ne g 9 dX8_removeLink_5 (by decide) (fun hz => absurd hz (by decide)) (fun _ => ?_)
    exact hr.1 rfl _ _ _ _ _ dX8_removeLink_8 (Nat.le_refl 0) (Nat.le_refl 0) h
  · replace h := h.2 c1
    obtain ⟨hi4, h⟩ := h
    by_cases c5 : (hI μ a0_row 1) ≤ x1
    · replace h := h.1 c5
      refine r_callV (st := []) (As := [.int x1]) g sX8_36 iX8_hasLink eX8_hasLink rfl hs_a0 rfl (Nat.le_of_ble_eq_true rfl) dX8_removeLink_2 (by omega) (Nat.le_refl 0) (Nat.le_refl 0) (P_X8_hasLink_1 (d := d - 1) hs_a0 hr_a0_row hs_a0_row c1 hi4 c5) (fun r6 μ7 hZ1 => ?_)
      obtain ⟨rfl, e9⟩ := hZ1
      replace e9 := e9.symm
      subst e9
      refine r_if_ne g 9 dX8_removeLink_5 (by decide) (fun hz => absurd hz (by decide)) (fun _ => ?_)
      exact hr.1 rfl _ _ _ _ _ dX8_removeLink_8 (Nat.le_refl 0) (Nat.le_refl 0) h
    · replace h := h.2 c5
      refine r_callV (st := []) (As := [.int x1]) g sX8_36 iX8_hasLink eX8_hasLink rfl hs_a0 rfl (Nat.le_of_ble_eq_true rfl) dX8_removeLink_2 (by omega) (Nat.le_refl 0) (Nat.le_refl 0) (P_X8_hasLink_2 (d := d - 1) hs_a0 hr_a0_row hs_a0_row c1 hi4 c5) (fun r8 μ9 hZ1 => ?_)
      obtain ⟨rfl, e9⟩ := hZ1
      replace e9 := e9.symm
      subst e9
      refine r_if_ne g 9 dX8_removeLink_5 (by decide) (fun _ => ?_) (fun hz => absurd hz (by decide))
      refine r_iload_n g dX8_removeLink_9 rfl ?_
      refine r_istore_n g [(2, .int x1), (0, .ref a0), (1, .int x1)] dX8_removeLink_10 (by decide) rfl ?_
      refine r_sub g (lv' := [(0, .ref a0), (2, .int x1)]) (⟨rfl, rfl, trivial⟩) ?_
      exact h
set_option maxHeartbeats 4000000 in
set_option maxRecDepth 100000 in
theorem B_X8_removeLink_11 {d : Nat} {ro : Nat → Nat} {J : JT} {Z : Option Value → Hp → Prop} (g : xCtx RX8 cX8_removeLink 3 d 0 0 yX8_removeLink.name ro J) (hr : xRet cX8_removeLink none 0 0 Z J) {μ : Hp} {a0 : Nat} {x2 : Int32} {a0_row : Nat} {N_a0_row : Nat} (hs_a0 : hS μ a0 = some (12, 4)) (hr_a0_row : hR μ a0 0 = some a0_row) (hs_a0_row : hS μ a0_row = some (0, N_a0_row))
    (h : vp_in 1 N_a0_row ∧ (((hI μ a0_row 1) ≤ (x2 + 1) → Z none (wI μ a0_row 1 ((hI μ a0_row 1) - 1))) ∧ (¬ (hI μ a0_row 1) ≤ (x2 + 1) → vp_in ((32 + x2) + 1) N_a0_row ∧ vp_in (32 + x2) N_a0_row ∧ vp_in ((48 + x2) + 1) N_a0_row ∧ (∀ v6 : Int32, v6 = (hI (wI μ a0_row ((32 + x2).toNatClampNeg) (hI μ a0_row (((32 + x2) + 1).toNatClampNeg))) a0_row (((48 + x2) + 1).toNatClampNeg)) → vp_in (48 + x2) N_a0_row ∧ vp_in ((64 + x2) + 1) N_a0_row ∧ (∀ v9 : Int32, v9 = (hI (wI (wI μ a0_row ((32 + x2).toNatClampNeg) (hI μ a0_row (((32 + x2) + 1).toNatClampNeg))) a0_row ((48 + x2).toNatClampNeg) v6) a0_row (((64 + x2) + 1).toNatClampNeg)) → vp_in (64 + x2) N_a0_row ∧ vp_in ((80 + x2) + 1) N_a0_row ∧ (∀ v12 : Int32, v12 = (hI (wI (wI (wI μ a0_row ((32 + x2).toNatClampNeg) (hI μ a0_row (((32 + x2) + 1).toNatClampNeg))) a0_row ((48 + x2).toNatClampNeg) v6) a0_row ((64 + x2).toNatClampNeg) v9) a0_row (((80 + x2) + 1).toNatClampNeg)) → vp_in (80 + x2) N_a0_row ∧ vp_in ((96 + x2) + 1) N_a0_row ∧ (∀ v15 : Int32, v15 = (hI (wI (wI (wI (wI μ a0_row ((32 + x2).toNatClampNeg) (hI μ a0_row (((32 + x2) + 1).toNatClampNeg))) a0_row ((48 + x2).toNatClampNeg) v6) a0_row ((64 + x2).toNatClampNeg) v9) a0_row ((80 + x2).toNatClampNeg) v12) a0_row (((96 + x2) + 1).toNatClampNeg)) → vp_in (96 + x2) N_a0_row ∧ J (wI (wI (wI (wI (wI μ a0_row ((32 + x2).toNatClampNeg) (hI μ a0_row (((32 + x2) + 1).toNatClampNeg))) a0_row ((48 + x2).toNatClampNeg) v6) a0_row ((64 + x2).toNatClampNeg) v9) a0_row ((80 + x2).toNatClampNeg) v12) a0_row ((96 + x2).toNatClampNeg) v15) 0 0 11 [(0, .ref a0), (2, .int (x2 + 1))] []))))))) :
    J μ 0 0 11 [(0, .ref a0), (2, .int x2)] [] := by
  refine r_iload_n g dX8_removeLink_11 rfl ?_
  refine r_iconst g 1 dX8_removeLink_12 (by decide) ?_
  refine r_iadd g dX8_removeLink_13 ?_
  refine r_aload_n g dX8_removeLink_14 rfl ?_
  refine r_getR g fX8_11 rfl hs_a0 hr_a0_row dX8_removeLink_15 ?_
  refine r_iconst g 1 dX8_removeLink_18 (by decide) ?_
  obtain ⟨hi1, h⟩ := h
  refine r_iaload g hs_a0_row hi1 dX8_removeLink_19 ?_
  refine r_icmp_ge g 129 dX8_removeLink_20 (by decide) (fun c2 => ?_) (fun c2 => ?_)
  · replace h := h.1 c2
    refine r_aload_n g dX8_removeLink_129 rfl ?_
    refine r_getR g fX8_11 rfl hs_a0 hr_a0_row dX8_removeLink_130 ?_
    refine r_iconst g 1 dX8_removeLink_133 (by decide) ?_
    refine r_dup2_11 g dX8_removeLink_134 rfl rfl ?_
    refine r_iaload g hs_a0_row hi1 dX8_removeLink_135 ?_
    refine r_iconst g 1 dX8_removeLink_136 (by decide) ?_
    refine r_isub g dX8_removeLink_137 ?_
    refine r_iastore g hs_a0_row hi1 dX8_removeLink_138 ?_
    exact hr.1 rfl _ _ _ _ _ dX8_removeLink_139 (Nat.le_refl 0) (Nat.le_refl 0) h
  · replace h := h.2 c2
    refine r_aload_n g dX8_removeLink_23 rfl ?_
    refine r_getR g fX8_11 rfl hs_a0 hr_a0_row dX8_removeLink_24 ?_
    refine r_bipush g 32 dX8_removeLink_27 (by decide) ?_
    refine r_iload_n g dX8_removeLink_29 rfl ?_
    refine r_iadd g dX8_removeLink_30 ?_
    refine r_aload_n g dX8_removeLink_31 rfl ?_
    refine r_getR g fX8_11 rfl hs_a0 hr_a0_row dX8_removeLink_32 ?_
    refine r_bipush g 32 dX8_removeLink_35 (by decide) ?_
    refine r_iload_n g dX8_removeLink_37 rfl ?_
    refine r_iadd g dX8_removeLink_38 ?_
    refine r_iconst g 1 dX8_removeLink_39 (by decide) ?_
    refine r_iadd g dX8_removeLink_40 ?_
    obtain ⟨hi3, h⟩ := h
    refine r_iaload g hs_a0_row hi3 dX8_removeLink_41 ?_
    obtain ⟨hi4, h⟩ := h
    refine r_iastore g hs_a0_row hi4 dX8_removeLink_42 ?_
    refine r_aload_n g dX8_removeLink_43 rfl ?_
    refine r_getR g fX8_11 rfl hs_a0 hr_a0_row dX8_removeLink_44 ?_
    refine r_bipush g 48 dX8_removeLink_47 (by decide) ?_
    refine r_iload_n g dX8_removeLink_49 rfl ?_
    refine r_iadd g dX8_removeLink_50 ?_
    refine r_aload_n g dX8_removeLink_51 rfl ?_
    refine r_getR g fX8_11 rfl hs_a0 hr_a0_row dX8_removeLink_52 ?_
    refine r_bipush g 48 dX8_removeLink_55 (by decide) ?_
    refine r_iload_n g dX8_removeLink_57 rfl ?_
    refine r_iadd g dX8_removeLink_58 ?_
    refine r_iconst g 1 dX8_removeLink_59 (by decide) ?_
    refine r_iadd g dX8_removeLink_60 ?_
    obtain ⟨hi5, h⟩ := h
    refine r_iaload g hs_a0_row hi5 dX8_removeLink_61 ?_
    refine r_nmI (fun v6 ev6 => ?_)
    replace h := h v6 ev6
    obtain ⟨hi7, h⟩ := h
    refine r_iastore g hs_a0_row hi7 dX8_removeLink_62 ?_
    refine r_aload_n g dX8_removeLink_63 rfl ?_
    refine r_getR g fX8_11 rfl hs_a0 hr_a0_row dX8_removeLink_64 ?_
    refine r_bipush g 64 dX8_removeLink_67 (by decide) ?_
    refine r_iload_n g dX8_removeLink_69 rfl ?_
    refine r_iadd g dX8_removeLink_70 ?_
    refine r_aload_n g dX8_removeLink_71 rfl ?_
    refine r_getR g fX8_11 rfl hs_a0 hr_a0_row dX8_removeLink_72 ?_
    refine r_bipush g 64 dX8_removeLink_75 (by decide) ?_
    refine r_iload_n g dX8_removeLink_77 rfl ?_
    refine r_iadd g dX8_removeLink_78 ?_
    refine r_iconst g 1 dX8_removeLink_79 (by decide) ?_
    refine r_iadd g dX8_removeLink_80 ?_
    obtain ⟨hi8, h⟩ := h
    refine r_iaload g hs_a0_row hi8 dX8_removeLink_81 ?_
    refine r_nmI (fun v9 ev9 => ?_)
    replace h := h v9 ev9
    obtain ⟨hi10, h⟩ := h
    refine r_iastore g hs_a0_row hi10 dX8_removeLink_82 ?_
    refine r_aload_n g dX8_removeLink_83 rfl ?_
    refine r_getR g fX8_11 rfl hs_a0 hr_a0_row dX8_removeLink_84 ?_
    refine r_bipush g 80 dX8_removeLink_87 (by decide) ?_
    refine r_iload_n g dX8_removeLink_89 rfl ?_
    refine r_iadd g dX8_removeLink_90 ?_
    refine r_aload_n g dX8_removeLink_91 rfl ?_
    refine r_getR g fX8_11 rfl hs_a0 hr_a0_row dX8_removeLink_92 ?_
    refine r_bipush g 80 dX8_removeLink_95 (by decide) ?_
    refine r_iload_n g dX8_removeLink_97 rfl ?_
    refine r_iadd g dX8_removeLink_98 ?_
    refine r_iconst g 1 dX8_removeLink_99 (by decide) ?_
    refine r_iadd g dX8_removeLink_100 ?_
    obtain ⟨hi11, h⟩ := h
    refine r_iaload g hs_a0_row hi11 dX8_removeLink_101 ?_
    refine r_nmI (fun v12 ev12 => ?_)
    replace h := h v12 ev12
    obtain ⟨hi13, h⟩ := h
    refine r_iastore g hs_a0_row hi13 dX8_removeLink_102 ?_
    refine r_aload_n g dX8_removeLink_103 rfl ?_
    refine r_getR g fX8_11 rfl hs_a0 hr_a0_row dX8_removeLink_104 ?_
    refine r_bipush g 96 dX8_removeLink_107 (by decide) ?_
    refine r_iload_n g dX8_removeLink_109 rfl ?_
    refine r_iadd g dX8_removeLink_110 ?_
    refine r_aload_n g dX8_removeLink_111 rfl ?_
    refine r_getR g fX8_11 rfl hs_a0 hr_a0_row dX8_removeLink_112 ?_
    refine r_bipush g 96 dX8_removeLink_115 (by decide) ?_
    refine r_iload_n g dX8_removeLink_117 rfl ?_
    refine r_iadd g dX8_removeLink_118 ?_
    refine r_iconst g 1 dX8_removeLink_119 (by decide) ?_
    refine r_iadd g dX8_removeLink_120 ?_
    obtain ⟨hi14, h⟩ := h
    refine r_iaload g hs_a0_row hi14 dX8_removeLink_121 ?_
    refine r_nmI (fun v15 ev15 => ?_)
    replace h := h v15 ev15
    obtain ⟨hi16, h⟩ := h
    refine r_iastore g hs_a0_row hi16 dX8_removeLink_122 ?_
    refine r_iinc g (x2 + 1) [(2, .int (x2 + 1)), (0, .ref a0)] dX8_removeLink_123 rfl rfl (by decide) rfl ?_
    refine r_goto g 11 dX8_removeLink_126 (by decide) ?_
    refine r_sub g (lv' := [(0, .ref a0), (2, .int (x2 + 1))]) (⟨rfl, rfl, trivial⟩) ?_
    exact h
theorem I_X8_removeLink {d : Nat} {ro : Nat → Nat} {Z : Option Value → Hp → Prop} {μ : Hp} {a0 : Nat} {x1 : Int32} (h : ∀ J, xCtx RX8 cX8_removeLink 3 d 0 0 yX8_removeLink.name ro J → xRet cX8_removeLink none 0 0 Z J → J μ 0 0 0 [(0, .ref a0), (1, .int x1)] []) : xC d yX8_removeLink cX8_removeLink 3 none 0 0 [.ref a0, .int x1] μ ro Z :=
  xC_intro (own := RX8) (lv := [(0, .ref a0), (1, .int x1)]) (by decide) rfl (Nat.le_of_ble_eq_true rfl) rfl (fun J g hr => r_sub g (lv' := [(0, .ref a0), (1, .int x1)]) (⟨rfl, rfl, trivial⟩) (h J g hr))
theorem dX8_sum_0 : decode cX8_sum 0 = .ok (.iconst 0, 1) := by decide +kernel
theorem dX8_sum_1 : decode cX8_sum 1 = .ok (.istore_n 3, 1) := by decide +kernel
theorem dX8_sum_2 : decode cX8_sum 2 = .ok (.iconst 0, 1) := by decide +kernel
theorem dX8_sum_3 : decode cX8_sum 3 = .ok (.istore 4, 2) := by decide +kernel
theorem dX8_sum_5 : decode cX8_sum 5 = .ok (.iload 4, 2) := by decide +kernel
theorem dX8_sum_7 : decode cX8_sum 7 = .ok (.iload_n 2, 1) := by decide +kernel
theorem dX8_sum_8 : decode cX8_sum 8 = .ok (.if_icmp .ge 21, 3) := by decide +kernel
theorem dX8_sum_11 : decode cX8_sum 11 = .ok (.iload_n 3, 1) := by decide +kernel
theorem dX8_sum_12 : decode cX8_sum 12 = .ok (.aload_n 0, 1) := by decide +kernel
theorem dX8_sum_13 : decode cX8_sum 13 = .ok (.getfield 11, 3) := by decide +kernel
theorem dX8_sum_16 : decode cX8_sum 16 = .ok (.iload_n 1, 1) := by decide +kernel
theorem dX8_sum_17 : decode cX8_sum 17 = .ok (.iload 4, 2) := by decide +kernel
theorem dX8_sum_19 : decode cX8_sum 19 = .ok (.iadd, 1) := by decide +kernel
theorem dX8_sum_20 : decode cX8_sum 20 = .ok (.iaload, 1) := by decide +kernel
theorem dX8_sum_21 : decode cX8_sum 21 = .ok (.iadd, 1) := by decide +kernel
theorem dX8_sum_22 : decode cX8_sum 22 = .ok (.istore_n 3, 1) := by decide +kernel
theorem dX8_sum_23 : decode cX8_sum 23 = .ok (.iinc 4 1, 3) := by decide +kernel
theorem dX8_sum_26 : decode cX8_sum 26 = .ok (.goto (-21), 3) := by decide +kernel
theorem dX8_sum_29 : decode cX8_sum 29 = .ok (.iload_n 3, 1) := by decide +kernel
theorem dX8_sum_30 : decode cX8_sum 30 = .ok (.ireturn, 1) := by decide +kernel
set_option maxHeartbeats 4000000 in
set_option maxRecDepth 100000 in
theorem B_X8_sum_0 {d : Nat} {ro : Nat → Nat} {J : JT} {Z : Option Value → Hp → Prop} (g : xCtx RX8 cX8_sum 5 d 0 0 yX8_sum.name ro J) (hr : xRet cX8_sum (some .int) 0 0 Z J) {μ : Hp} {a0 : Nat} {x1 : Int32} {x2 : Int32} 
    (h : J μ 0 0 5 [(0, .ref a0), (1, .int x1), (2, .int x2), (3, .int 0), (4, .int 0)] []) :
    J μ 0 0 0 [(0, .ref a0), (1, .int x1), (2, .int x2)] [] := by
  refine r_iconst g 0 dX8_sum_0 (by decide) ?_
  refine r_istore_n g [(3, .int 0), (0, .ref a0), (1, .int x1), (2, .int x2)] dX8_sum_1 (by decide) rfl ?_
  refine r_iconst g 0 dX8_sum_2 (by decide) ?_
  refine r_istore g [(4, .int 0), (3, .int 0), (0, .ref a0), (1, .int x1), (2, .int x2)] dX8_sum_3 (by decide) rfl ?_
  refine r_sub g (lv' := [(0, .ref a0), (1, .int x1), (2, .int x2), (3, .int 0), (4, .int 0)]) (⟨rfl, rfl, rfl, rfl, rfl, trivial⟩) ?_
  exact h
set_option maxHeartbeats 4000000 in
set_option maxRecDepth 100000 in
theorem B_X8_sum_5 {d : Nat} {ro : Nat → Nat} {J : JT} {Z : Option Value → Hp → Prop} (g : xCtx RX8 cX8_sum 5 d 0 0 yX8_sum.name ro J) (hr : xRet cX8_sum (some .int) 0 0 Z J) {μ : Hp} {a0 : Nat} {x1 : Int32} {x2 : Int32} {x3 : Int32} {x4 : Int32} {a0_row : Nat} {N_a0_row : Nat} (hs_a0 : hS μ a0 = some (12, 4)) (hr_a0_row : hR μ a0 0 = some a0_row) (hs_a0_row : hS μ a0_row = some (0, N_a0_row))
    (h : ((x2 ≤ x4 → Z (some (.int x3)) μ) ∧ (¬ x2 ≤ x4 → vp_in (x1 + x4) N_a0_row ∧ J μ 0 0 5 [(0, .ref a0), (1, .int x1), (2, .int x2), (3, .int (x3 + (hI μ a0_row ((x1 + x4).toNatClampNeg)))), (4, .int (x4 + 1))] []))) :
    J μ 0 0 5 [(0, .ref a0), (1, .int x1), (2, .int x2), (3, .int x3), (4, .int x4)] [] := by
  refine r_iload g dX8_sum_5 rfl ?_
  refine r_iload_n g dX8_sum_7 rfl ?_
  refine r_icmp_ge g 29 dX8_sum_8 (by decide) (fun c1 => ?_) (fun c1 => ?_)
  · replace h := h.1 c1
    refine r_iload_n g dX8_sum_29 rfl ?_
    exact hr.2.1 _ rfl _ _ _ _ _ _ dX8_sum_30 rfl (Nat.le_refl 0) (Nat.le_refl 0) h
  · replace h := h.2 c1
    refine r_iload_n g dX8_sum_11 rfl ?_
    refine r_aload_n g dX8_sum_12 rfl ?_
    refine r_getR g fX8_11 rfl hs_a0 hr_a0_row dX8_sum_13 ?_
    refine r_iload_n g dX8_sum_16 rfl ?_
    refine r_iload g dX8_sum_17 rfl ?_
    refine r_iadd g dX8_sum_19 ?_
    obtain ⟨hi2, h⟩ := h
    refine r_iaload g hs_a0_row hi2 dX8_sum_20 ?_
    refine r_iadd g dX8_sum_21 ?_
    refine r_istore_n g [(3, .int (x3 + (hI μ a0_row ((x1 + x4).toNatClampNeg)))), (0, .ref a0), (1, .int x1), (2, .int x2), (4, .int x4)] dX8_sum_22 (by decide) rfl ?_
    refine r_iinc g (x4 + 1) [(4, .int (x4 + 1)), (3, .int (x3 + (hI μ a0_row ((x1 + x4).toNatClampNeg)))), (0, .ref a0), (1, .int x1), (2, .int x2)] dX8_sum_23 rfl rfl (by decide) rfl ?_
    refine r_goto g 5 dX8_sum_26 (by decide) ?_
    refine r_sub g (lv' := [(0, .ref a0), (1, .int x1), (2, .int x2), (3, .int (x3 + (hI μ a0_row ((x1 + x4).toNatClampNeg)))), (4, .int (x4 + 1))]) (⟨rfl, rfl, rfl, rfl, rfl, trivial⟩) ?_
    exact h
theorem I_X8_sum {d : Nat} {ro : Nat → Nat} {Z : Option Value → Hp → Prop} {μ : Hp} {a0 : Nat} {x1 : Int32} {x2 : Int32} (h : ∀ J, xCtx RX8 cX8_sum 5 d 0 0 yX8_sum.name ro J → xRet cX8_sum (some .int) 0 0 Z J → J μ 0 0 0 [(0, .ref a0), (1, .int x1), (2, .int x2)] []) : xC d yX8_sum cX8_sum 5 (some .int) 0 0 [.ref a0, .int x1, .int x2] μ ro Z :=
  xC_intro (own := RX8) (lv := [(0, .ref a0), (1, .int x1), (2, .int x2)]) (by decide) rfl (Nat.le_of_ble_eq_true rfl) rfl (fun J g hr => r_sub g (lv' := [(0, .ref a0), (1, .int x1), (2, .int x2)]) (⟨rfl, rfl, rfl, trivial⟩) (h J g hr))
theorem dX8_firstOfMost_0 : decode cX8_firstOfMost 0 = .ok (.iconst 0, 1) := by decide +kernel
theorem dX8_firstOfMost_1 : decode cX8_firstOfMost 1 = .ok (.istore_n 3, 1) := by decide +kernel
theorem dX8_firstOfMost_2 : decode cX8_firstOfMost 2 = .ok (.iconst 1, 1) := by decide +kernel
theorem dX8_firstOfMost_3 : decode cX8_firstOfMost 3 = .ok (.istore 4, 2) := by decide +kernel
theorem dX8_firstOfMost_5 : decode cX8_firstOfMost 5 = .ok (.iload 4, 2) := by decide +kernel
theorem dX8_firstOfMost_7 : decode cX8_firstOfMost 7 = .ok (.iload_n 2, 1) := by decide +kernel
theorem dX8_firstOfMost_8 : decode cX8_firstOfMost 8 = .ok (.if_icmp .ge 32, 3) := by decide +kernel
theorem dX8_firstOfMost_11 : decode cX8_firstOfMost 11 = .ok (.aload_n 0, 1) := by decide +kernel
theorem dX8_firstOfMost_12 : decode cX8_firstOfMost 12 = .ok (.getfield 11, 3) := by decide +kernel
theorem dX8_firstOfMost_15 : decode cX8_firstOfMost 15 = .ok (.iload_n 1, 1) := by decide +kernel
theorem dX8_firstOfMost_16 : decode cX8_firstOfMost 16 = .ok (.iload 4, 2) := by decide +kernel
theorem dX8_firstOfMost_18 : decode cX8_firstOfMost 18 = .ok (.iadd, 1) := by decide +kernel
theorem dX8_firstOfMost_19 : decode cX8_firstOfMost 19 = .ok (.iaload, 1) := by decide +kernel
theorem dX8_firstOfMost_20 : decode cX8_firstOfMost 20 = .ok (.aload_n 0, 1) := by decide +kernel
theorem dX8_firstOfMost_21 : decode cX8_firstOfMost 21 = .ok (.getfield 11, 3) := by decide +kernel
theorem dX8_firstOfMost_24 : decode cX8_firstOfMost 24 = .ok (.iload_n 1, 1) := by decide +kernel
theorem dX8_firstOfMost_25 : decode cX8_firstOfMost 25 = .ok (.iload_n 3, 1) := by decide +kernel
theorem dX8_firstOfMost_26 : decode cX8_firstOfMost 26 = .ok (.iadd, 1) := by decide +kernel
theorem dX8_firstOfMost_27 : decode cX8_firstOfMost 27 = .ok (.iaload, 1) := by decide +kernel
theorem dX8_firstOfMost_28 : decode cX8_firstOfMost 28 = .ok (.if_icmp .le 6, 3) := by decide +kernel
theorem dX8_firstOfMost_31 : decode cX8_firstOfMost 31 = .ok (.iload 4, 2) := by decide +kernel
theorem dX8_firstOfMost_33 : decode cX8_firstOfMost 33 = .ok (.istore_n 3, 1) := by decide +kernel
theorem dX8_firstOfMost_34 : decode cX8_firstOfMost 34 = .ok (.iinc 4 1, 3) := by decide +kernel
theorem dX8_firstOfMost_37 : decode cX8_firstOfMost 37 = .ok (.goto (-32), 3) := by decide +kernel
theorem dX8_firstOfMost_40 : decode cX8_firstOfMost 40 = .ok (.iload_n 3, 1) := by decide +kernel
theorem dX8_firstOfMost_41 : decode cX8_firstOfMost 41 = .ok (.ireturn, 1) := by decide +kernel
set_option maxHeartbeats 4000000 in
set_option maxRecDepth 100000 in
theorem B_X8_firstOfMost_0 {d : Nat} {ro : Nat → Nat} {J : JT} {Z : Option Value → Hp → Prop} (g : xCtx RX8 cX8_firstOfMost 5 d 0 0 yX8_firstOfMost.name ro J) (hr : xRet cX8_firstOfMost (some .int) 0 0 Z J) {μ : Hp} {a0 : Nat} {x1 : Int32} {x2 : Int32} 
    (h : J μ 0 0 5 [(0, .ref a0), (1, .int x1), (2, .int x2), (3, .int 0), (4, .int 1)] []) :
    J μ 0 0 0 [(0, .ref a0), (1, .int x1), (2, .int x2)] [] := by
  refine r_iconst g 0 dX8_firstOfMost_0 (by decide) ?_
  refine r_istore_n g [(3, .int 0), (0, .ref a0), (1, .int x1), (2, .int x2)] dX8_firstOfMost_1 (by decide) rfl ?_
  refine r_iconst g 1 dX8_firstOfMost_2 (by decide) ?_
  refine r_istore g [(4, .int 1), (3, .int 0), (0, .ref a0), (1, .int x1), (2, .int x2)] dX8_firstOfMost_3 (by decide) rfl ?_
  refine r_sub g (lv' := [(0, .ref a0), (1, .int x1), (2, .int x2), (3, .int 0), (4, .int 1)]) (⟨rfl, rfl, rfl, rfl, rfl, trivial⟩) ?_
  exact h
set_option maxHeartbeats 4000000 in
set_option maxRecDepth 100000 in
theorem B_X8_firstOfMost_5 {d : Nat} {ro : Nat → Nat} {J : JT} {Z : Option Value → Hp → Prop} (g : xCtx RX8 cX8_firstOfMost 5 d 0 0 yX8_firstOfMost.name ro J) (hr : xRet cX8_firstOfMost (some .int) 0 0 Z J) {μ : Hp} {a0 : Nat} {x1 : Int32} {x2 : Int32} {x3 : Int32} {x4 : Int32} {a0_row : Nat} {N_a0_row : Nat} (hs_a0 : hS μ a0 = some (12, 4)) (hr_a0_row : hR μ a0 0 = some a0_row) (hs_a0_row : hS μ a0_row = some (0, N_a0_row))
    (h : ((x2 ≤ x4 → Z (some (.int x3)) μ) ∧ (¬ x2 ≤ x4 → vp_in (x1 + x4) N_a0_row ∧ vp_in (x1 + x3) N_a0_row ∧ (((hI μ a0_row ((x1 + x4).toNatClampNeg)) ≤ (hI μ a0_row ((x1 + x3).toNatClampNeg)) → J μ 0 0 5 [(0, .ref a0), (1, .int x1), (2, .int x2), (3, .int x3), (4, .int (x4 + 1))] []) ∧ (¬ (hI μ a0_row ((x1 + x4).toNatClampNeg)) ≤ (hI μ a0_row ((x1 + x3).toNatClampNeg)) → J μ 0 0 5 [(0, .ref a0), (1, .int x1), (2, .int x2), (3, .int x4), (4, .int (x4 + 1))] []))))) :
    J μ 0 0 5 [(0, .ref a0), (1, .int x1), (2, .int x2), (3, .int x3), (4, .int x4)] [] := by
  refine r_iload g dX8_firstOfMost_5 rfl ?_
  refine r_iload_n g dX8_firstOfMost_7 rfl ?_
  refine r_icmp_ge g 40 dX8_firstOfMost_8 (by decide) (fun c1 => ?_) (fun c1 => ?_)
  · replace h := h.1 c1
    refine r_iload_n g dX8_firstOfMost_40 rfl ?_
    exact hr.2.1 _ rfl _ _ _ _ _ _ dX8_firstOfMost_41 rfl (Nat.le_refl 0) (Nat.le_refl 0) h
  · replace h := h.2 c1
    refine r_aload_n g dX8_firstOfMost_11 rfl ?_
    refine r_getR g fX8_11 rfl hs_a0 hr_a0_row dX8_firstOfMost_12 ?_
    refine r_iload_n g dX8_firstOfMost_15 rfl ?_
    refine r_iload g dX8_firstOfMost_16 rfl ?_
    refine r_iadd g dX8_firstOfMost_18 ?_
    obtain ⟨hi2, h⟩ := h
    refine r_iaload g hs_a0_row hi2 dX8_firstOfMost_19 ?_
    refine r_aload_n g dX8_firstOfMost_20 rfl ?_
    refine r_getR g fX8_11 rfl hs_a0 hr_a0_row dX8_firstOfMost_21 ?_
    refine r_iload_n g dX8_firstOfMost_24 rfl ?_
    refine r_iload_n g dX8_firstOfMost_25 rfl ?_
    refine r_iadd g dX8_firstOfMost_26 ?_
    obtain ⟨hi3, h⟩ := h
    refine r_iaload g hs_a0_row hi3 dX8_firstOfMost_27 ?_
    refine r_icmp_le g 34 dX8_firstOfMost_28 (by decide) (fun c4 => ?_) (fun c4 => ?_)
    · replace h := h.1 c4
      refine r_iinc g (x4 + 1) [(4, .int (x4 + 1)), (0, .ref a0), (1, .int x1), (2, .int x2), (3, .int x3)] dX8_firstOfMost_34 rfl rfl (by decide) rfl ?_
      refine r_goto g 5 dX8_firstOfMost_37 (by decide) ?_
      refine r_sub g (lv' := [(0, .ref a0), (1, .int x1), (2, .int x2), (3, .int x3), (4, .int (x4 + 1))]) (⟨rfl, rfl, rfl, rfl, rfl, trivial⟩) ?_
      exact h
    · replace h := h.2 c4
      refine r_iload g dX8_firstOfMost_31 rfl ?_
      refine r_istore_n g [(3, .int x4), (0, .ref a0), (1, .int x1), (2, .int x2), (4, .int x4)] dX8_firstOfMost_33 (by decide) rfl ?_
      refine r_iinc g (x4 + 1) [(4, .int (x4 + 1)), (3, .int x4), (0, .ref a0), (1, .int x1), (2, .int x2)] dX8_firstOfMost_34 rfl rfl (by decide) rfl ?_
      refine r_goto g 5 dX8_firstOfMost_37 (by decide) ?_
      refine r_sub g (lv' := [(0, .ref a0), (1, .int x1), (2, .int x2), (3, .int x4), (4, .int (x4 + 1))]) (⟨rfl, rfl, rfl, rfl, rfl, trivial⟩) ?_
      exact h
theorem I_X8_firstOfMost {d : Nat} {ro : Nat → Nat} {Z : Option Value → Hp → Prop} {μ : Hp} {a0 : Nat} {x1 : Int32} {x2 : Int32} (h : ∀ J, xCtx RX8 cX8_firstOfMost 5 d 0 0 yX8_firstOfMost.name ro J → xRet cX8_firstOfMost (some .int) 0 0 Z J → J μ 0 0 0 [(0, .ref a0), (1, .int x1), (2, .int x2)] []) : xC d yX8_firstOfMost cX8_firstOfMost 5 (some .int) 0 0 [.ref a0, .int x1, .int x2] μ ro Z :=
  xC_intro (own := RX8) (lv := [(0, .ref a0), (1, .int x1), (2, .int x2)]) (by decide) rfl (Nat.le_of_ble_eq_true rfl) rfl (fun J g hr => r_sub g (lv' := [(0, .ref a0), (1, .int x1), (2, .int x2)]) (⟨rfl, rfl, rfl, trivial⟩) (h J g hr))
